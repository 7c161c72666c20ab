import java.util.ArrayList;
import java.util.List;

/** The edges of who sits and lies where, and of what is done and UNDONE (promises 5 to 12). */
public final class DoneEdgeTests {
  private static final Checks CHECKS = new Checks();
  private static final int BAD = TrayTurns.BAD, STATE = TrayTurns.STATE, NONE = TrayTurns.NONE;

  private static void due(String what, long got, long want) {
    CHECKS.due(what, got, want);
  }

  public static void main(String[] args) {
    busyIsAsToldThere();
    numbersOfAskingCalls();
    numbersOfDoingCalls();
    leftOverBySeats();
    reachRoundTheTable();
    stepsOfATurn();
    spilling();
    lastPortion();
    firstRefusalOfTakes();
    everyOtherPlace();
    fullTray();
    firstRefusalOfMoves();
    changingSeats();
    noneToUndo();
    tenAreKnown();
    refusedIsNotKnown();
    onlyDoingIsKnown();
    undoneOneByOne();
    lastOf512();
    CHECKS.end("DoneEdgeTests");
  }

  /** The other tests stand on this. */
  private static void busyIsAsToldThere() {
    TrayTurns x = new TrayTurns();
    Checks.busy(x);
    int[] counts = {7, 3, 3, 2, 9};
    for (int what = 0; what < 5; what++) due("busy: count(" + what + ")", x.count(what), counts[what]);
    due("busy: TURN", x.now(0), 5);
    due("busy: may be UNDONE", x.now(5), 4);
    due("busy: THE TRACE", x.trace(), 1112);
    int[] portions = {1, 9, 0};
    for (int d = 0; d < 3; d++) due("busy: PORTIONS of " + d, x.dish(d, 1), portions[d]);
    due("busy: IMAGE 1", x.back(1), 0);
    due("busy: IMAGE 0", x.back(0), 5);
  }

  // ---- too small, too large

  private static void numbersOfAskingCalls() {
    CHECKS.limits("5: guest g", Checks::busy, 0, 2, (x, v) -> x.guest(v, 0));
    CHECKS.limits("5: guest what", Checks::busy, 0, 5, (x, v) -> x.guest(2, v));
    CHECKS.limits("6: dish d", Checks::busy, 0, 2, (x, v) -> x.dish(v, 0));
    CHECKS.limits("6: dish what", Checks::busy, 0, 4, (x, v) -> x.dish(2, v));
    CHECKS.limits("7: now what", Checks::busy, 0, 5, (x, v) -> x.now(v));
    for (int what = -1; what < 7; what++) {
      due("5: no GUEST, guest(0," + what + ")", new TrayTurns().guest(0, what), BAD);
      due("6: no DISH, dish(0," + what + ")", new TrayTurns().dish(0, what), BAD);
    }
    // of calls that ask, whatever they ask, nothing changes
    for (int what = 0; what < 6; what++) {
      int w = what;
      TrayTurns x = new TrayTurns();
      Checks.busy(x);
      long guest = x.guest(1, w), now = x.now(w), dish = x.dish(1, Math.min(w, 4));
      CHECKS.changesNothing("5: guest(1," + w + ")", Checks::busy, y -> y.guest(1, w), guest);
      CHECKS.changesNothing("6: dish(1," + w + ")", Checks::busy, y -> y.dish(1, Math.min(w, 4)), dish);
      CHECKS.changesNothing("7: now(" + w + ")", Checks::busy, y -> y.now(w), now);
    }
  }

  private static void numbersOfDoingCalls() {
    CHECKS.limits("8: spins k", Checks::busy, 1, 6, (x, v) -> x.spins(v, 0));
    CHECKS.limits("8: spins k, the other way", Checks::busy, 1, 6, (x, v) -> x.spins(v, 1));
    CHECKS.limits("8: spins way", Checks::busy, 0, 1, (x, v) -> x.spins(1, v));
    CHECKS.limits("9: takes g", Checks::busy, 0, 2, (x, v) -> x.takes(v, 1));
    CHECKS.limits("9: takes d", Checks::busy, 0, 2, (x, v) -> x.takes(0, v));
    CHECKS.limits("10: moves d", Checks::busy, 0, 2, (x, v) -> x.moves(v, 3));
    CHECKS.limits("10: moves place", Checks::busy, 0, 6, (x, v) -> x.moves(0, v));
    CHECKS.limits("11: changes a", Checks::busy, 0, 2, (x, v) -> x.changes(v, 1));
    CHECKS.limits("11: changes b", Checks::busy, 0, 2, (x, v) -> x.changes(1, v));
  }

  // ---- left over by SEATS

  private static void leftOverBySeats() {
    for (int n = 3; n <= 9; n++) {
      TrayTurns x = Checks.told("n" + n + ";d0 1 0;d" + (n - 1) + " 1 0;");
      for (int t = 0; t < n; t++) {
        due("6: PLACE 0 of " + n + " with TURN " + t, x.dish(0, 3), t);
        due("6: the last PLACE of " + n + " with TURN " + t, x.dish(1, 3), (n - 1 + t) % n);
        due("6: the PLACE stays", x.dish(1, 0), n - 1);
        x.spins(1, 0);
      }
      due("8: all round, SEATS " + n, x.now(0), 0);
      x.spins(1, 1);
      due("8: 1 less than 0, SEATS " + n, x.now(0), n - 1);
      x.spins(1, 0);
      due("8: 1 more than the last, SEATS " + n, x.now(0), 0);
    }
  }

  private static int round(int n, int a, int b) {
    int apart = Math.abs(a - b);
    return Math.min(apart, n - apart);
  }

  /** All SEATS, ARMS and TURNS: reached up to ARM SEATS the nearer way round, not one further. */
  private static void reachRoundTheTable() {
    for (int n = 3; n <= 9; n++)
      for (int arm = 0; arm <= 2; arm++)
        for (int seat = 0; seat < n; seat++) {
          TrayTurns x = Checks.told("n" + n + ";g" + seat + " " + arm + " a;d0 9 0;d" + (n - 1) + " 9 0;");
          for (int t = 0; t < n; t++) {
            boolean first = round(n, seat, t) <= arm, second = round(n, seat, (n - 1 + t) % n) <= arm;
            String at = " of " + n + ", SEAT " + seat + ", ARM " + arm + ", TURN " + t;
            due("5: reaches" + at, x.guest(0, 5), (first ? 1 : 0) + (second ? 2 : 0));
            due("6: is reached" + at, x.dish(0, 4), first ? 1 : 0);
            due("9: takes" + at, x.takes(0, 0) == STATE ? STATE : 0, first ? 0 : STATE);
            x.spins(1, 0);
          }
        }
  }

  // ---- promise 8

  private static void stepsOfATurn() {
    for (int n = 3; n <= 9; n++)
      for (int k = 1; k <= 10; k++)
        for (int from = 0; from < n; from++)
          for (int way = 0; way < 2; way++) {
            TrayTurns x = Checks.told("n" + n + ";");
            for (int i = 0; i < from; i++) x.spins(1, 0);
            String what = "8: spins(" + k + "," + way + ") from " + from + " of " + n;
            due(what, x.spins(k, way), k < n && k <= 8 ? 0 : BAD);
            int to = k >= n ? from : way == 0 ? (from + k) % n : (from - k + n) % n;
            due(what + ", TURN", x.now(0), to);
            due(what + ", known", x.now(5), Math.min(from + (k < n ? 1 : 0), 10));
          }
  }

  private static void spilling() {
    for (int k = 1; k <= 8; k++)
      for (int way = 0; way < 2; way++) {
        TrayTurns x = Checks.told("n9;d0 9 1;d1 1 1;d2 1 0;d3 9 0;d4 2 1;");
        int spilt = k < 3 ? 0 : 1;
        due("8: spilt by " + k, x.spins(k, way), 3 * spilt);
        int[] told = {9, 1, 1, 9, 2}, tall = {1, 1, 0, 0, 1};
        for (int d = 0; d < 5; d++) due("8: left by " + k + " of " + d, x.dish(d, 1), told[d] - spilt * tall[d]);
      }
    TrayTurns x = Checks.told("n9;d0 2 1;d1 1 1;d2 1 0;");
    due("8: both", x.spins(3, 0), 2);
    due("8: the one that has some", x.spins(3, 0), 1);
    due("8: none has any", x.spins(8, 0), 0);
    due("8: none is below 0", x.dish(1, 1), 0);
    due("8: it is TURNED though", x.now(0), 5);
    due("8: and known", x.now(5), 3);
    TrayTurns y = Checks.told("n4;g0 0 a;d0 1 1;");
    y.takes(0, 0);
    due("8: what was TAKEN can't be spilt", y.spins(3, 0), 0);
    TrayTurns z = Checks.told("n4;g0 2 a;d0 1 1;");
    z.spins(3, 0);
    due("8: nobody HAD what is spilt", z.guest(0, 3), 0);
  }

  // ---- promise 9

  private static void lastPortion() {
    TrayTurns x = Checks.told("g0 0 b;g1 1 a;d0 9 0;d3 1 0;");
    for (int left = 8; left >= 0; left--) {
      due("9: left " + left, x.takes(0, 0), left);
      due("9: HAD it, though he does not like it", x.guest(0, 3), 1);
    }
    due("9: none are left", x.takes(0, 0), STATE);
    due("9: for nobody", x.takes(1, 0), STATE);
    due("9: HAD nothing", x.guest(1, 3), 0);
    due("9: not below 0", x.dish(0, 1), 0);
    TrayTurns all = Checks.told("g2 2 f;d0 1 0;d1 1 0;d2 1 0;d3 1 0;d4 1 0;d5 1 0;");
    for (int d = 0; d < 5; d++) {
      due("9: each of what he reaches", all.takes(0, d), 0);
      due("9: HAD all till then", all.guest(0, 3), (2 << d) - 1);
    }
    due("9: across", all.takes(0, 5), STATE);
    TrayTurns y = Checks.told("g0 0 a;d0 1 0;");
    due("9: the only one", y.takes(0, 0), 0);
    y.undo();
    due("9: is there again", y.takes(0, 0), 0);
    Watch.Run none = z -> {
      Checks.type(z, "g0 0 a;g1 1 a;g5 0 a;d0 1 0;");
      z.table();
      z.takes(0, 0);
    };
    CHECKS.changesNothing("9: there are none", none, z -> z.takes(0, 0), STATE);
    CHECKS.changesNothing("9: there are none for another one", none, z -> z.takes(1, 0), STATE);
    CHECKS.changesNothing("9: he does not reach it, and there are none", none, z -> z.takes(2, 0), STATE);
    Watch.Run far = z -> {
      Checks.type(z, "n9;g0 2 a;d2 1 0;d3 1 0;d6 1 0;d7 1 0;");
      z.table();
    };
    int[] want = {0, STATE, STATE, 0};
    for (int d = 0; d < 4; d++) {
      int dish = d;
      if (want[d] == STATE) CHECKS.changesNothing("9: one further than his ARM", far, z -> z.takes(0, dish), STATE);
      else {
        TrayTurns z = new TrayTurns();
        far.on(z);
        due("9: as far as his ARM", z.takes(0, d), 0);
      }
    }
  }

  private static void firstRefusalOfTakes() {
    // the third DISH has no PORTIONS
    CHECKS.changesNothing("9: STATE", Checks::busy, x -> x.takes(0, 2), STATE);
    CHECKS.changesNothing("9: BAD ahead of STATE, no such GUEST", Checks::busy, x -> x.takes(3, 2), BAD);
    CHECKS.changesNothing("9: BAD ahead of STATE, GUEST -1", Checks::busy, x -> x.takes(-1, 2), BAD);
    CHECKS.changesNothing("9: BAD ahead of STATE, no such DISH", Checks::busy, x -> x.takes(1, 3), BAD);
    CHECKS.changesNothing("9: BAD, neither is there", Checks::busy, x -> x.takes(3, 3), BAD);
    due("9: nobody takes nothing", new TrayTurns().takes(0, 0), BAD);
    due("9: nobody takes", Checks.told("d0 1 0;").takes(0, 0), BAD);
    due("9: he takes nothing", Checks.told("g0 0 a;").takes(0, 0), BAD);
  }

  // ---- promise 10

  private static void everyOtherPlace() {
    for (int n = 3; n <= 9; n++)
      for (int place = -1; place <= n; place++) {
        TrayTurns x = Checks.told("n" + n + ";d0 1 0;d" + (n - 1) + " 1 0;");
        int want = place < 0 || place >= n ? BAD : place == 0 || place == n - 1 ? STATE : 0;
        due("10: moves(0," + place + ") of " + n, x.moves(0, place), want);
        due("10: its PLACE then", x.dish(0, 0), want == 0 ? place : 0);
        due("10: known then", x.now(5), want == 0 ? 1 : 0);
        due("10: the other one's PLACE then", x.dish(1, 0), n - 1);
      }
    TrayTurns x = Checks.told("n9;d8 1 0;");
    due("10: from the last to the first", x.moves(0, 0), 8);
    due("10: from the first to the last", x.moves(0, 8), 0);
    TrayTurns y = Checks.told("n9;d0 1 1;");
    y.moves(0, 8);
    due("10: nothing is spilt however far", y.dish(0, 1), 1);
  }

  private static void fullTray() {
    TrayTurns x = Checks.told("n3;d0 1 0;d1 1 0;d2 1 0;");
    for (int d = 0; d < 3; d++)
      for (int place = 0; place < 3; place++) due("10: no PLACE is empty", x.moves(d, place), STATE);
    due("10: nothing is known", x.now(5), 0);
    TrayTurns y = Checks.told("d0 1 0;d1 1 0;d2 1 0;d3 1 0;d4 1 0;d5 1 0;");
    for (int d = 0; d < 6; d++) due("10: six of six", y.moves(d, (d + 1) % 6), STATE);
    TrayTurns z = Checks.told("n3;d0 1 0;d1 1 0;");
    due("10: the only one that is empty", z.moves(0, 2), 0);
    due("10: what it has left is", z.moves(1, 0), 1);
    due("10: what it has gone to is not", z.moves(1, 2), STATE);
  }

  private static void firstRefusalOfMoves() {
    // PLACES 1, 4, 5 are taken
    CHECKS.changesNothing("10: its own", Checks::busy, x -> x.moves(0, 1), STATE);
    CHECKS.changesNothing("10: another one's", Checks::busy, x -> x.moves(0, 4), STATE);
    CHECKS.changesNothing("10: one without PORTIONS lies there, too", Checks::busy, x -> x.moves(0, 5), STATE);
    CHECKS.changesNothing("10: BAD ahead of STATE, no such DISH", Checks::busy, x -> x.moves(3, 4), BAD);
    CHECKS.changesNothing("10: BAD ahead of STATE, DISH -1", Checks::busy, x -> x.moves(-1, 4), BAD);
    CHECKS.changesNothing("10: BAD, neither is there", Checks::busy, x -> x.moves(3, 7), BAD);
    due("10: no DISHES", new TrayTurns().moves(0, 0), BAD);
  }

  // ---- promise 11

  private static void changingSeats() {
    for (int g = 0; g < 3; g++) {
      int a = g;
      CHECKS.changesNothing("11: alike ones", Checks::busy, x -> x.changes(a, a), BAD);
    }
    CHECKS.changesNothing("11: alike ones that are not there", Checks::busy, x -> x.changes(3, 3), BAD);
    CHECKS.changesNothing("11: alike ones below 0", Checks::busy, x -> x.changes(-1, -1), BAD);
    due("11: nobody", new TrayTurns().changes(0, 0), BAD);
    due("11: nobody, with another one", new TrayTurns().changes(0, 1), BAD);
    due("11: one alone", Checks.told("g0 0 a;").changes(0, 1), BAD);
    TrayTurns x = Checks.told("n9;g8 2 a;g1 0 b;g2 0 c;g3 0 d;g4 1 e;g0 0 f;d0 1 0;");
    due("11: the first and the last", x.changes(0, 5), 0);
    due("11: SEAT of the last", x.guest(5, 0), 8);
    due("11: the last and the first", x.changes(5, 0), 0);
    due("11: SEAT of the first", x.guest(0, 0), 8);
    due("11: ARM stays", x.guest(0, 1), 2);
    due("11: LIKES stays", x.guest(0, 2), 1);
    due("11: two of it are known", x.now(5), 2);
    x.changes(0, 1);
    due("11: then who sits at 1 reaches", x.guest(0, 5), 1);
    due("11: who sits at 8 with no ARM does not", x.guest(1, 5), 0);
    TrayTurns y = Checks.told("g0 0 a;g3 0 a;d0 2 0;");
    y.takes(0, 0);
    y.changes(0, 1);
    due("11: what he HAD goes with him", y.guest(0, 3), 1);
    due("11: not with the SEAT", y.guest(1, 3), 0);
  }

  // ---- promise 12

  private static void noneToUndo() {
    CHECKS.changesNothing("12: nothing yet", x -> {}, x -> x.undo(), STATE);
    CHECKS.changesNothing("12: behind table()", x -> {
      Checks.busy(x);
      x.type(';');
      x.table();
    }, x -> x.undo(), STATE);
    CHECKS.changesNothing("12: behind back()", x -> {
      Checks.busy(x);
      x.back(0);
    }, x -> x.undo(), STATE);
    CHECKS.changesNothing("12: behind as many undo()", x -> {
      Checks.busy(x);
      for (int i = 0; i < 4; i++) x.undo();
    }, x -> x.undo(), STATE);
  }

  /** The i-th of calls, of all four sorts, none of which is refused; table() has told MANY. */
  private static void act(TrayTurns x, int i) {
    switch (i % 4) {
      case 0: x.spins(3 + i % 3, i / 4 % 2); break;
      case 1: x.takes(i / 4 % 2, x.guest(i / 4 % 2, 5) % 2 == 1 ? 0 : 1); break;
      case 2: x.moves(2, x.dish(2, 0) == 6 ? 7 : 6); break;
      default: x.changes(i / 4 % 3, 3);
    }
  }

  private static final String MANY = "n8;g0 2 a;g1 2 b;g2 0 c;g7 1 f;d0 9 1;d4 9 0;d6 9 1;";

  private static void tenAreKnown() {
    for (int many = 0; many <= 14; many++) {
      TrayTurns x = Checks.told(MANY);
      List<List<Long>> was = new ArrayList<>();
      for (int i = 0; i < many; i++) {
        was.add(Watch.now(x));
        act(x, i);
        due("12: known behind " + (i + 1), x.now(5), Math.min(i + 1, 10));
        CHECKS.holds("12: call " + i + " changed nothing", !was.get(i).equals(Watch.now(x)));
      }
      int known = Math.min(many, 10);
      for (int i = 1; i <= known; i++) {
        due("12: undo " + i + " of " + many, x.undo(), known - i);
        due("12: now(5) behind undo " + i + " of " + many, x.now(5), known - i);
        CHECKS.holds("12: not as before call " + (many - i) + " of " + many, Watch.now(x).equals(was.get(many - i)));
      }
      due("12: older ones are lost, of " + many, x.undo(), STATE);
      if (many > 0) CHECKS.holds("12: the refused one changed something", Watch.now(x).equals(was.get(many - known)));
    }
  }

  private static void refusedIsNotKnown() {
    TrayTurns x = new TrayTurns();
    Checks.busy(x);
    List<Long> was = Watch.now(x);
    due("12: one that is not refused", x.spins(6, 1), 1);
    long[] refused = {x.spins(0, 0), x.spins(7, 0), x.spins(1, 2), x.takes(3, 0), x.takes(0, 3), x.takes(0, 2), x.moves(3, 0),
      x.moves(0, 7), x.moves(0, 4), x.changes(0, 0), x.changes(0, 3), x.keep(2), x.back(2), x.table()};
    for (int i = 0; i < refused.length; i++) CHECKS.holds("12: call " + i + " was not refused", refused[i] < 0 && refused[i] != NONE);
    due("12: only that one is known", x.now(5), 5);
    due("12: only that one is UNDONE", x.undo(), 4);
    CHECKS.holds("12: not as before it", Watch.now(x).equals(was));
  }

  private static void onlyDoingIsKnown() {
    TrayTurns x = new TrayTurns();
    Checks.busy(x);
    x.type('a');
    x.clear();
    x.sees(0, 0, 0);
    x.forget();
    x.rate(0, 0);
    x.keep(0);
    x.steps(0, 0, 0);
    x.puts(0);
    x.now(3);
    due("12: four, as before", x.now(5), 4);
    x.sees(1, 1, 1);
    x.type('g');
    long trace = x.trace();
    due("12: the latest that was done", x.undo(), 3);
    due("12: SEAT of the first then", x.guest(0, 0), 0);
    due("12: what was SEEN stays", x.count(3), 1);
    due("12: THE TEXT stays", x.count(4), 1);
    due("12: THE TRACE stays", x.trace(), trace);
    x.undo();
    x.undo();
    x.undo();
    due("12: IMAGES stay", x.back(0), 5);
    due("12: as it was kept", x.guest(0, 0), 6);
  }

  private static void undoneOneByOne() {
    TrayTurns x = Checks.told("n4;g0 0 ab;g2 1 a;d0 1 1;d1 2 1;d3 1 0;");
    x.takes(0, 0);
    // the first has none that could be spilt, nor gets one back
    due("12: spilt", x.spins(3, 0), 1);
    due("12: undo of it", x.undo(), 1);
    due("12: nothing comes to one that had none", x.dish(0, 1), 0);
    due("12: what was spilt is there", x.dish(1, 1), 2);
    due("12: undo of takes()", x.undo(), 0);
    due("12: the PORTION is there", x.dish(0, 1), 1);
    due("12: he HAD it not", x.guest(0, 3), 0);
    TrayTurns y = Checks.told("n4;g0 0 a;d0 3 0;");
    y.takes(0, 0);
    y.takes(0, 0);
    y.undo();
    due("12: he HAD it by the first", y.guest(0, 3), 1);
    due("12: one PORTION is back", y.dish(0, 1), 2);
    y.undo();
    due("12: then not", y.guest(0, 3), 0);
    TrayTurns z = Checks.told("n4;");
    for (int i = 0; i < 10; i++) z.spins(1, 0);
    z.undo();
    z.spins(2, 0);
    due("12: ten again", z.now(5), 10);
    due("12: the one put in for it", z.undo(), 9);
    due("12: TURN before it", z.now(0), 1);
    for (int left = 8; left >= 0; left--) due("12: left " + left, z.undo(), left);
    due("12: back to TURN 0", z.now(0), 0);
  }

  /** An object is used for at most 512 calls: the last of them is answered as the first. */
  private static void lastOf512() {
    TrayTurns x = new TrayTurns();
    Checks.type(x, "n9;g0 0 a;d0 9 0;");
    x.table();
    for (int i = 19; i <= 510; i++) due("8: call " + i, x.spins(1, 0), 0);
    due("7: call 511", x.now(0), (510 - 18) % 9);
    due("12: call 512", x.undo(), 9);
  }
}
