import java.util.List;

/** The edges of KINDS, IMAGES, counts and THE TRACE (promises 21 to 25). */
public final class KindEdgeTests {
  private static final Checks CHECKS = new Checks();
  private static final int BAD = TrayTurns.BAD, STATE = TrayTurns.STATE, NO = TrayTurns.NO;
  private static final long[] TRACED = {1, 11, 101, 1011, 10101, 100001};

  private static void due(String what, long got, long want) {
    CHECKS.due(what, got, want);
  }

  public static void main(String[] args) {
    numbers();
    nobodyToRate();
    ratesAtTheirMost();
    ratesAtTheirLeast();
    ratesAsThingsAreNow();
    traceOfEachBody();
    keptAnew();
    keptAsItWas();
    noneWasKept();
    nothingElseIsKept();
    nothingUndoneBehindBack();
    counts();
    CHECKS.end("KindEdgeTests");
  }

  private static void numbers() {
    for (int v : new int[] {-1, 6, Integer.MIN_VALUE, Integer.MAX_VALUE}) {
      CHECKS.changesNothing("21: rate(" + v + ",0)", Checks::busy, x -> x.rate(v, 0), NO);
      CHECKS.changesNothing("21: rate(" + v + ",3)", Checks::busy, x -> x.rate(v, 3), NO);
    }
    for (int v : new int[] {-1, 3, Integer.MIN_VALUE, Integer.MAX_VALUE})
      for (int kind = 0; kind < 6; kind++) {
        int k = kind;
        CHECKS.changesNothing("21: rate(" + k + "," + v + ")", Checks::busy, x -> x.rate(k, v), NO);
      }
    CHECKS.limits("22: keep image", Checks::busy, 0, 1, (x, v) -> x.keep(v));
    CHECKS.limits("23: back image", Checks::busy, 0, 1, (x, v) -> x.back(v));
    CHECKS.limits("24: count what", Checks::busy, 0, 4, (x, v) -> x.count(v));
  }

  // ---- promises 21 and 25

  private static void nobodyToRate() {
    TrayTurns x = new TrayTurns();
    for (int kind = 0; kind < 6; kind++) due("21: nobody is there, rate(" + kind + ",0)", x.rate(kind, 0), NO);
    due("25: nothing is traced", x.trace(), 0);
    TrayTurns six = Checks.told("g0 0 a;g1 0 a;g2 0 a;g3 0 a;g4 0 a;g5 0 a;");
    due("21: the sixth", six.rate(4, 5), 5);
    due("21: no seventh", six.rate(4, 6), NO);
    due("25: of the sixth alone", six.trace(), 10101);
  }

  private static void ratesAtTheirMost() {
    TrayTurns x = Checks.told("n9;g0 0 a;g1 0 a;g2 0 a;g3 0 a;g4 0 a;g8 2 abcdef;d1 9 0;d2 9 0;d3 9 0;d4 9 0;d5 9 0;d6 9 0;");
    x.spins(8, 0);
    // from SEATS 0 .. 5 he reaches that before 0 and 1
    int[] want = {6, 6 + 2, 6 - 2, 2 * (6 + 2), 6 - 2 + 5, 6 + 8};
    for (int kind = 0; kind < 6; kind++) due("21: all NEEDED, rate(" + kind + ",5)", x.rate(kind, 5), want[kind]);
  }

  private static void ratesAtTheirLeast() {
    TrayTurns x = Checks.told("n5;g0 2 f;d0 9 0;d1 9 0;d2 9 0;d3 9 0;d4 9 0;");
    int[] want = {0, 2, -5, 4, -5, 0};
    for (int kind = 0; kind < 6; kind++) due("21: nothing NEEDED, rate(" + kind + ",0)", x.rate(kind, 0), want[kind]);
    TrayTurns y = Checks.told("g0 0 f;");
    for (int kind = 0; kind < 6; kind++) due("21: nothing there, rate(" + kind + ",0)", y.rate(kind, 0), 0);
    TrayTurns z = Checks.told("g0 0 f;d0 1 0;");
    due("21: -1 is no refusal", z.rate(2, 0), -1);
    due("25: it is traced", z.trace(), 101);
  }

  private static void ratesAsThingsAreNow() {
    TrayTurns x = Checks.told("n9;g0 1 ab;d0 2 0;d4 1 0;");
    due("21: NEEDS two", x.rate(0, 0), 2);
    due("21: reaches one", x.rate(2, 0), 1);
    x.takes(0, 0);
    due("21: NEEDS one", x.rate(0, 0), 1);
    due("21: reaches it still", x.rate(2, 0), 0);
    x.spins(2, 0);
    due("21: reaches none", x.rate(2, 0), 1);
    due("21: TURN 2", x.rate(5, 0), 3);
    x.spins(3, 1);
    due("21: TURN round by 0", x.rate(5, 0), 9);
    x.undo();
    x.undo();
    x.undo();
    due("21: UNDONE", x.rate(5, 0), 2);
  }

  private static void traceOfEachBody() {
    for (int kind = 0; kind < 6; kind++) {
      TrayTurns x = Checks.told("g0 0 a;");
      due("25: 0 at first", x.trace(), 0);
      for (int i = 1; i <= 3; i++) {
        x.rate(kind, 0);
        due("25: KIND " + kind + ", asked " + i, x.trace(), i * TRACED[kind]);
      }
      x.rate(kind, 1);
      x.rate(6, 0);
      x.rate(-1, 0);
      due("25: KIND " + kind + ", what is BAD adds nothing", x.trace(), 3 * TRACED[kind]);
      x.trace();
      due("25: KIND " + kind + ", asking for it adds nothing", x.trace(), 3 * TRACED[kind]);
    }
    TrayTurns y = new TrayTurns();
    Checks.busy(y);
    for (Watch.Call call : new Watch.Call[] {z -> z.undo(), z -> z.back(0), z -> z.forget(), z -> z.clear(), z -> z.table()}) {
      call.on(y);
      due("25: goes on", y.trace(), 1112);
    }
  }

  // ---- promises 22 and 23

  private static void keptAnew() {
    TrayTurns x = Checks.told("n9;g0 0 a;d0 9 0;");
    due("22: TURN 0", x.keep(0), 0);
    x.spins(1, 1);
    due("22: TURN 8", x.keep(1), 8);
    due("23: IMAGE 0", x.back(0), 0);
    due("23: IMAGE 1", x.back(1), 8);
    x.spins(2, 0);
    due("22: IMAGE 1 anew", x.keep(1), 1);
    due("23: IMAGE 0 is as it was", x.back(0), 0);
    due("23: IMAGE 1 is the later one", x.back(1), 1);
    due("23: and TURN is", x.now(0), 1);
    due("22: one from the other", x.keep(0), 1);
    due("23: is alike", x.back(0), 1);
    due("22: kept with nothing there", new TrayTurns().keep(1), 0);
  }

  /** All that NOW is comes back, as often as one likes, whatever was done since. */
  private static void keptAsItWas() {
    TrayTurns x = new TrayTurns();
    Checks.busy(x);
    List<Long> now = Watch.now(x);
    x.keep(0);
    for (int times = 0; times < 3; times++) {
      x.spins(4, 1);
      x.moves(1, 2);
      x.changes(1, 2);
      for (int g = 0; g < 3; g++) for (int d = 0; d < 3; d++) x.takes(g, d);
      if (times == 1) for (int i = 0; i < 10; i++) x.undo();
      CHECKS.holds("23: nothing has changed", times == 1 || !now.equals(Watch.now(x)));
      due("23: TURN as it was", x.back(0), 5);
      CHECKS.holds("23: not as it was kept", now.equals(Watch.now(x)));
    }
    List<Long> other = Watch.now(x);
    x.back(1);
    CHECKS.holds("23: the other IMAGE is another one", !other.equals(Watch.now(x)));
    due("23: TURN of the other one", x.now(0), 0);
    due("23: PORTIONS of the other one", x.dish(2, 1), 1);
    due("23: PLACE of the other one", x.dish(0, 0), 0);
    due("23: SEAT of the other one", x.guest(0, 0), 0);
    due("23: HAD of the other one", x.guest(0, 3), 0);
  }

  private static void noneWasKept() {
    Watch.Run first = x -> {
      Checks.type(x, "n4;g0 0 a;d0 2 1;");
      x.table();
      x.takes(0, 0);
      x.keep(0);
      x.spins(1, 0);
    };
    Watch.Run second = x -> {
      Checks.type(x, "n4;g0 0 a;d0 2 1;");
      x.table();
      x.keep(1);
      x.spins(1, 0);
    };
    CHECKS.changesNothing("23: nothing was kept", x -> x.spins(1, 0), x -> x.back(0), STATE);
    CHECKS.changesNothing("23: only IMAGE 0 was", first, x -> x.back(1), STATE);
    CHECKS.changesNothing("23: only IMAGE 1 was", second, x -> x.back(0), STATE);
    CHECKS.changesNothing("23: BAD, where none was kept", x -> x.spins(1, 0), x -> x.back(2), BAD);
    CHECKS.changesNothing("23: BAD below, where none was kept", x -> x.spins(1, 0), x -> x.back(-1), BAD);
    CHECKS.changesNothing("22: BAD keeps nothing", x -> x.spins(1, 0), x -> x.keep(2), BAD);
    Watch.Run anew = x -> {
      Checks.busy(x);
      x.type(';');
      x.table();
      x.spins(1, 0);
    };
    CHECKS.changesNothing("23: IMAGE 0 is gone by table()", anew, x -> x.back(0), STATE);
    CHECKS.changesNothing("23: IMAGE 1 is gone by table()", anew, x -> x.back(1), STATE);
    TrayTurns x = new TrayTurns();
    Checks.busy(x);
    due("4: a FAULT", x.table(), -10 - 9);
    due("23: IMAGES stay by a FAULT", x.back(0), 5);
  }

  private static void nothingElseIsKept() {
    TrayTurns x = new TrayTurns();
    Checks.busy(x);
    x.keep(0);
    x.forget();
    x.sees(2, 3, 1);
    x.clear();
    x.type('d');
    x.rate(0, 0);
    due("23: TURN", x.back(0), 5);
    due("23: SEEN stays", x.count(3), 1);
    due("23: THE TEXT stays", x.count(4), 1);
    due("23: THE TRACE stays", x.trace(), 1113);
    due("23: the other IMAGE stays", x.back(1), 0);
  }

  private static void nothingUndoneBehindBack() {
    TrayTurns x = new TrayTurns();
    Checks.busy(x);
    due("22: keep()", x.keep(0), 5);
    due("22: leaves what may be UNDONE", x.now(5), 4);
    due("23: BAD", x.back(2), BAD);
    due("23: BAD leaves what may be UNDONE", x.now(5), 4);
    due("23: back()", x.back(0), 5);
    due("23: nothing may be", x.now(5), 0);
    due("23: nothing can be", x.undo(), STATE);
    x.spins(1, 0);
    due("23: what is done then can be", x.undo(), 0);
    due("23: not more than that", x.undo(), STATE);
    due("23: TURN as it was kept", x.now(0), 5);
  }

  // ---- promise 24

  private static void counts() {
    TrayTurns x = Checks.told("n9;g0 0 a;g1 0 a;g2 0 a;g3 0 a;g4 0 a;g5 0 a;d0 1 0;d1 1 0;d2 1 0;d3 1 0;d4 1 0;d5 1 0;");
    for (int i = 0; i < 7; i++) x.sees(0, 0, 0);
    for (int i = 0; i < 141; i++) x.type(' ');
    int[] most = {9, 6, 6, 6, 140};
    for (int what = 0; what < 5; what++) due("24: the most, count(" + what + ")", x.count(what), most[what]);
    TrayTurns y = Checks.told("n3;");
    int[] least = {3, 0, 0, 0, 0};
    for (int what = 0; what < 5; what++) due("24: the least, count(" + what + ")", y.count(what), least[what]);
  }
}
