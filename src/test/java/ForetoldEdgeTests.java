/** The edges of what is best, and of who it was (TOUR, SWAP, FED of promise 7, and promises 13 to 20). */
public final class ForetoldEdgeTests {
  private static final Checks CHECKS = new Checks();
  private static final int BAD = TrayTurns.BAD, FULL = TrayTurns.FULL, NONE = TrayTurns.NONE;

  private static void due(String what, long got, long want) {
    CHECKS.due(what, got, want);
  }

  public static void main(String[] args) {
    numbers();
    nobodyAndNothing();
    stepsRoundTheTable();
    tourAtItsLeast();
    tourAtItsMost();
    tourEitherWay();
    enoughPortions();
    nothingSpillsInTour();
    putOwnAndEmpty();
    putOfSeveral();
    putNone();
    swapMustBeLess();
    swapOfSeveral();
    fedOneAtMost();
    fedOfSeveral();
    fedNone();
    oddsAtTheEnds();
    oddsRound();
    oddsInLeastTerms();
    sixAreSeen();
    whoAsAllLiesNow();
    lookForTwoAndOne();
    lookOfSeveral();
    badAheadOfNone();
    foretellingChangesNothing();
    CHECKS.end("ForetoldEdgeTests");
  }

  private static void numbers() {
    CHECKS.limits("13: steps g", Checks::busy, 0, 2, (x, v) -> x.steps(v, 0, 0));
    CHECKS.limits("13: steps d", Checks::busy, 0, 2, (x, v) -> x.steps(0, v, 0));
    CHECKS.limits("13: steps what", Checks::busy, 0, 1, (x, v) -> x.steps(0, 0, v));
    CHECKS.limits("14: puts d", Checks::busy, 0, 2, (x, v) -> x.puts(v));
    CHECKS.limits("15: fed g", Checks::busy, 0, 2, (x, v) -> x.fed(v));
    CHECKS.limits("16: odds x", Checks::busy, 0, 10, (x, v) -> x.odds(v, 0, 0));
    CHECKS.limits("16: odds t", Checks::busy, 0, 6, (x, v) -> x.odds(5, v, 0));
    CHECKS.limits("16: odds what", Checks::busy, 0, 1, (x, v) -> x.odds(5, 0, v));
    CHECKS.limits("17: sees d", Checks::busy, 0, 2, (x, v) -> x.sees(v, 0, 0));
    CHECKS.limits("17: sees t", Checks::busy, 0, 6, (x, v) -> x.sees(0, v, 0));
    CHECKS.limits("17: sees reached", Checks::busy, 0, 1, (x, v) -> x.sees(0, 0, v));
    CHECKS.limits("20: look d", Checks::busy, 0, 2, (x, v) -> x.look(v));
    for (int n = 3; n <= 9; n++) {
      String text = "n" + n + ";g0 0 a;d0 1 0;";
      CHECKS.limits("16: odds t of " + n, x -> { Checks.type(x, text); x.table(); }, 0, n - 1, (x, v) -> x.odds(5, v, 0));
      CHECKS.limits("17: sees t of " + n, x -> { Checks.type(x, text); x.table(); }, 0, n - 1, (x, v) -> x.sees(0, v, 0));
    }
  }

  private static void nobodyAndNothing() {
    TrayTurns x = new TrayTurns();
    due("7: TOUR of nobody", x.now(2), 0);
    due("7: SWAP of nobody", x.now(3), NONE);
    due("7: FED of nobody", x.now(4), 0);
    due("13: steps(0,0,0)", x.steps(0, 0, 0), BAD);
    due("14: puts(0)", x.puts(0), BAD);
    due("15: fed(0)", x.fed(0), BAD);
    due("17: sees(0,0,0)", x.sees(0, 0, 0), BAD);
    due("19: who()", x.who(), 0);
    due("20: look(0)", x.look(0), BAD);
    TrayTurns dishes = Checks.told("d3 1 0;d0 1 0;");
    due("7: TOUR of DISHES alone", dishes.now(2), 0);
    due("13: no GUEST", dishes.steps(0, 0, 0), BAD);
    due("14: PUT of one that nobody NEEDS: the lowest that is empty", dishes.puts(0), 1);
    due("14: PUT of one that nobody NEEDS: its own", dishes.puts(1), 0);
    due("19: WHO of nobody", dishes.who(), 0);
    due("20: LOOK of nobody", dishes.look(0), NONE);
    TrayTurns guests = Checks.told("g0 0 a;g3 0 a;");
    due("7: TOUR of GUESTS alone", guests.now(2), 0);
    due("7: SWAP of GUESTS alone", guests.now(3), NONE);
    due("7: FED of GUESTS alone", guests.now(4), 0);
    due("13: no DISH", guests.steps(0, 0, 0), BAD);
    due("15: fed(1)", guests.fed(1), NONE);
    due("19: WHO of GUESTS alone", guests.who(), 3);
    due("20: no DISH", guests.look(0), BAD);
  }

  // ---- promise 13

  /** All SEATS, ARMS and TURNS: none, one way, the other way, both alike. */
  private static void stepsRoundTheTable() {
    for (int n = 3; n <= 9; n++)
      for (int arm = 0; arm <= 2; arm++)
        for (int seat = 0; seat < n; seat++) {
          TrayTurns x = Checks.told("n" + n + ";g" + seat + " " + arm + " a;d" + (n - 1) + " 1 0;");
          for (int t = 0; t < n; t++) {
            int more = 0, less = 0;
            while (!near(n, seat, n - 1 + t + more, arm)) more++;
            while (!near(n, seat, n - 1 + t - less, arm)) less++;
            String at = " of " + n + ", SEAT " + seat + ", ARM " + arm + ", TURN " + t;
            due("13: STEPS" + at, x.steps(0, 0, 0), Math.min(more, less));
            due("13: WAY" + at, x.steps(0, 0, 1), more == 0 ? NONE : more <= less ? 0 : 1);
            x.spins(1, 0);
          }
        }
    TrayTurns none = Checks.told("n9;g0 0 a;d4 1 0;");
    due("13: the furthest", none.steps(0, 0, 0), 4);
    TrayTurns empty = Checks.told("g0 0 b;g1 0 a;d1 1 0;");
    empty.takes(1, 0);
    due("13: of one that he does not like, that has none", empty.steps(0, 0, 0), 1);
    due("13: that he HAD", empty.steps(1, 0, 0), 0);
  }

  private static boolean near(int n, int seat, int before, int arm) {
    int apart = Math.floorMod(before - seat, n);
    return Math.min(apart, n - apart) <= arm;
  }

  // ---- TOUR

  private static void tourAtItsLeast() {
    due("7: NOW counts", Checks.told("n9;g0 0 a;d0 1 0;").now(2), 0);
    due("7: NOW counts for some", Checks.told("n9;g0 0 ab;d0 1 0;d1 1 0;").now(2), 1);
    due("7: as far as his ARM", Checks.told("n9;g0 2 ab;d2 1 0;d7 1 0;").now(2), 0);
    due("7: one further", Checks.told("n9;g0 2 a;d3 1 0;").now(2), 1);
    due("7: one further round the other way", Checks.told("n9;g0 2 a;d6 1 0;").now(2), 1);
    TrayTurns x = Checks.told("n9;g0 0 a;d4 1 0;");
    x.spins(5, 0);
    due("7: TURNED to it", x.now(2), 0);
    x.takes(0, 0);
    x.spins(4, 0);
    due("7: HAD it", x.now(2), 0);
    x.undo();
    x.undo();
    x.spins(4, 0);
    due("7: HAD it not", x.now(2), 4);
  }

  private static void tourAtItsMost() {
    for (int n = 3; n <= 9; n++) {
      // every TURN is NEEDED: of all ways one that goes all round, of SEATS less 1
      StringBuilder text = new StringBuilder("n" + n + ";");
      int[] seats = {0, n > 6 ? 6 : -1};
      for (int s : seats) if (s >= 0) text.append("g").append(s).append(" 0 abcdef;");
      for (int d = 0; d < Math.min(n, 6); d++) text.append("d").append(d).append(" 9 0;");
      due("7: every TURN of " + n, Checks.told(text.toString()).now(2), n - 1);
    }
  }

  private static void tourEitherWay() {
    due("7: 1 more, 1 less", Checks.told("n9;g0 0 ab;d1 1 0;d8 1 0;").now(2), 3);
    due("7: 2 more, 1 less", Checks.told("n9;g0 0 ab;d1 1 0;d7 1 0;").now(2), 4);
    due("7: 1 more, 2 less", Checks.told("n9;g0 0 ab;d2 1 0;d8 1 0;").now(2), 4);
    due("7: 2 more and back, or 7 round", Checks.told("n9;g0 0 ab;d2 1 0;d7 1 0;").now(2), 6);
    due("7: 3 more and back, or 6 round", Checks.told("n9;g0 0 ab;d3 1 0;d6 1 0;").now(2), 6);
    due("7: 4 and 5, one way", Checks.told("n9;g0 0 ab;d4 1 0;d5 1 0;").now(2), 5);
    due("7: across, SEATS 8", Checks.told("n8;g0 0 a;d4 1 0;").now(2), 4);
    due("7: across, SEATS 3", Checks.told("n3;g0 0 a;d1 1 0;").now(2), 1);
    due("7: one STEP for two", Checks.told("n9;g1 0 a;g5 0 b;d0 1 0;d4 1 0;").now(2), 1);
  }

  private static void enoughPortions() {
    due("7: as many as NEED it", Checks.told("g0 0 a;g1 0 a;d0 2 0;").now(2), 1);
    due("7: one fewer", Checks.told("g0 0 a;g1 0 a;d0 1 0;").now(2), NONE);
    due("7: one fewer of the last of all", Checks.told("g0 0 abc;g1 0 abc;d0 2 0;d1 2 0;d2 1 0;").now(2), NONE);
    due("7: six of six", Checks.told("g0 0 a;g1 0 a;g2 0 a;g3 0 a;g4 0 a;g5 0 a;d0 6 0;").now(2), 5);
    due("7: five of six", Checks.told("g0 0 a;g1 0 a;g2 0 a;g3 0 a;g4 0 a;g5 0 a;d0 5 0;").now(2), NONE);
    TrayTurns x = Checks.told("g0 0 a;g1 1 a;d0 2 0;");
    x.takes(0, 0);
    due("7: one for the one who is left", x.now(2), 0);
    x.takes(0, 0);
    due("7: none for the one who is left", x.now(2), NONE);
    TrayTurns y = Checks.told("g0 0 a;g1 1 b;d0 1 0;");
    y.takes(0, 0);
    due("7: none are left, nobody NEEDS it", y.now(2), 0);
    TrayTurns z = Checks.told("n4;g0 0 a;d1 1 1;");
    due("7: before it spills", z.now(2), 1);
    z.spins(3, 0);
    due("7: spilt", z.now(2), NONE);
    due("7: SWAP, where TOUR is NONE", z.now(3), NONE);
    due("14: PUT, where TOUR is NONE", z.puts(0), NONE);
  }

  private static void nothingSpillsInTour() {
    TrayTurns x = Checks.told("n9;g0 0 a;g4 0 a;d8 2 1;");
    due("7: far enough to spill, were it at once", x.now(2), 5);
    due("7: nothing is spilt", x.dish(0, 1), 2);
    due("13: nor by STEPS", x.steps(1, 0, 0), 4);
    due("14: nor by PUT", x.puts(0), 0);
    due("7: nothing is TURNED", x.now(0), 0);
    due("7: all PORTIONS", x.now(1), 2);
  }

  // ---- promise 14

  private static void putOwnAndEmpty() {
    due("14: its own is best", Checks.told("n9;g8 0 a;d8 1 0;").puts(0), 8);
    due("14: an empty one is best", Checks.told("n9;g8 0 a;d0 1 0;").puts(0), 8);
    due("14: the best is not empty", Checks.told("n9;g4 0 a;d0 1 0;d4 1 0;").puts(0), 3);
    due("14: the first one is not empty", Checks.told("n9;g0 0 a;d4 1 0;d0 1 0;").puts(0), 1);
    due("14: the last one is not empty", Checks.told("n9;g8 0 a;d4 1 0;d8 1 0;").puts(0), 0);
    due("14: nor the next one", Checks.told("n9;g4 0 a;d0 1 0;d4 1 0;d3 1 0;").puts(0), 5);
    due("14: none but its own", Checks.told("n3;g2 0 a;d0 1 0;d1 1 0;d2 1 0;").puts(0), 0);
    due("14: one that is empty, and worse than its own", Checks.told("n3;g0 0 a;d0 1 0;d1 1 0;").puts(0), 0);
    TrayTurns x = Checks.told("n9;g0 0 a;d0 1 0;");
    x.spins(1, 0);
    due("14: left over by SEATS", x.puts(0), 8);
    x.spins(1, 1);
    x.spins(1, 1);
    due("14: and the other way", x.puts(0), 1);
    due("14: nothing was MOVED", x.dish(0, 0), 0);
  }

  private static void putOfSeveral() {
    due("14: of several the lowest, though its own is as good", Checks.told("n9;g5 2 a;d7 1 0;").puts(0), 3);
    due("14: round by 0", Checks.told("n9;g0 1 a;d8 1 0;").puts(0), 0);
    due("14: the lowest that is empty", Checks.told("n9;g5 2 a;d7 1 0;d3 1 0;").puts(0), 4);
    due("14: all alike", Checks.told("n5;g4 2 a;d4 1 0;").puts(0), 0);
    due("14: HAD by everybody, all alike", had("n9;g8 0 a;d8 1 0;").puts(0), 0);
    due("14: TOUR is that of all, not of this one", Checks.told("n9;g0 0 a;g3 0 b;d6 1 0;d0 1 0;").puts(0), 6);
  }

  private static TrayTurns had(String text) {
    TrayTurns x = Checks.told(text);
    x.takes(0, 0);
    return x;
  }

  private static void putNone() {
    TrayTurns x = Checks.told("g0 0 a;g1 0 ab;d3 1 0;d4 1 0;");
    due("14: NONE, by itself", x.puts(0), NONE);
    due("14: NONE, by another one", x.puts(1), NONE);
    due("14: not NONE with one more", Checks.told("g0 0 a;g1 0 ab;d3 2 0;d4 1 0;").puts(1) == NONE ? 1 : 0, 0);
  }

  // ---- SWAP

  private static void swapMustBeLess() {
    due("7: one GUEST alone", Checks.told("n9;g0 0 a;d4 1 0;").now(3), NONE);
    due("7: less by one", Checks.told("n9;g1 0 a;g0 0 f;d0 1 0;").now(3), 1);
    due("7: as much as it is", Checks.told("n9;g1 0 a;g8 0 f;d0 1 0;").now(3), NONE);
    due("7: more than it is", Checks.told("n9;g0 0 a;g8 0 f;d0 1 0;").now(3), NONE);
    due("7: less, not 0", Checks.told("n9;g4 0 a;g1 0 f;d0 1 0;").now(3), 1);
    due("7: TOUR is NONE", Checks.told("n9;g4 0 a;g0 0 a;d0 1 0;").now(3), NONE);
  }

  private static void swapOfSeveral() {
    due("7: the last two", Checks.told("n9;g3 2 f;g5 2 f;g6 2 f;g7 2 f;g4 0 a;g0 0 f;d0 1 0;").now(3), 45);
    due("7: the lesser one first", Checks.told("n9;g0 0 f;g4 0 a;d0 1 0;").now(3), 1);
    due("7: of several the least number", Checks.told("n9;g1 0 f;g4 0 a;g8 0 f;d0 1 0;").now(3), 1);
    due("7: least ahead of the number", Checks.told("n9;g1 0 f;g4 0 a;g0 0 f;d0 1 0;").now(3), 12);
    TrayTurns x = Checks.told("n9;g1 0 f;g4 0 a;g0 0 f;d0 1 0;");
    x.now(3);
    for (int g = 0; g < 3; g++) due("7: nobody was CHANGED", x.guest(g, 0), new int[] {1, 4, 0}[g]);
    x.changes(1, 2);
    due("7: TOUR by its CHANGE", x.now(2), 0);
    due("7: then none is less", x.now(3), NONE);
  }

  // ---- FED

  private static void fed(String text, int... want) {
    TrayTurns x = Checks.told(text);
    int all = 0;
    for (int g = 0; g < want.length; g++) {
      due("15: fed(" + g + ") of " + text, x.fed(g), want[g]);
      all += want[g] == NONE ? 0 : 1;
    }
    due("7: FED of " + text, x.now(4), all);
  }

  private static void fedOneAtMost() {
    fed("g0 0 abcdef;d0 9 0;d1 9 0;d2 9 0;", 0);
    fed("g0 0 f;d0 1 0;d1 1 0;d2 1 0;d3 1 0;d4 1 0;d5 1 0;", 5);
    fed("g0 0 a;g1 0 a;g2 0 a;g3 0 a;g4 0 a;g5 0 a;d0 6 0;", 0, 0, 0, 0, 0, 0);
    fed("g0 0 a;g1 0 a;g2 0 a;g3 0 a;g4 0 a;g5 0 a;d0 5 0;", 0, 0, 0, 0, 0, NONE);
    fed("g0 0 a;g1 0 a;g2 0 a;g3 0 a;g4 0 a;g5 0 a;d0 1 0;", 0, NONE, NONE, NONE, NONE, NONE);
  }

  private static void fedOfSeveral() {
    fed("g0 0 ab;g1 0 ab;d0 1 0;d1 1 0;", 0, 1);
    fed("g0 0 ab;g1 0 a;d0 1 0;d1 1 0;", 1, 0);
    fed("g0 0 ab;g1 0 a;g2 0 b;d0 1 0;d1 1 0;", 0, NONE, 1);
    fed("g0 0 ab;g1 0 bc;g2 0 c;d0 1 0;d1 1 0;d2 1 0;", 0, 1, 2);
    fed("g0 0 ab;g1 0 bc;g2 0 a;d0 1 0;d1 1 0;d2 1 0;", 1, 2, 0);
    // none last: he has one where as many are FED without him
    fed("g0 0 b;g1 0 b;g2 0 a;d0 1 0;d1 1 0;", 1, NONE, 0);
  }

  private static void fedNone() {
    fed("g0 0 b;d0 1 0;", NONE);
    fed("g0 0 f;g1 0 a;d0 1 0;", NONE, 0);
    TrayTurns x = Checks.told("g0 0 a;g1 1 a;d0 2 0;");
    x.takes(0, 0);
    due("15: HAD what he likes", x.fed(0), NONE);
    due("15: the other one", x.fed(1), 0);
    x.takes(0, 0);
    due("15: none are left", x.fed(1), NONE);
    due("7: nobody", x.now(4), 0);
    TrayTurns far = Checks.told("n9;g4 0 a;d0 1 0;");
    due("15: one that he does not reach NOW", far.fed(0), 0);
    due("15: nothing is TAKEN by it", far.dish(0, 1), 1);
    due("15: he HAD nothing by it", far.guest(0, 3), 0);
  }

  // ---- promise 16

  private static void odds(TrayTurns x, int by, int t, int upper, int lower) {
    due("16: odds(" + by + "," + t + ",0)", x.odds(by, t, 0), upper);
    due("16: odds(" + by + "," + t + ",1)", x.odds(by, t, 1), lower);
  }

  private static void oddsAtTheEnds() {
    for (int by = 0; by <= 10; by++)
      for (int t = 0; t < 6; t++) odds(new TrayTurns(), by, t, t == 0 ? 1 : 0, 1);
    TrayTurns x = Checks.told("n9;g0 0 a;g1 0 a;");
    for (int t = 0; t < 9; t++) {
      odds(x, 0, t, t == 0 ? 1 : 0, 1);
      odds(x, 10, t, t == 2 ? 1 : 0, 1);
    }
    odds(x, 1, 0, 81, 100);
    odds(x, 1, 1, 9, 50);
    odds(x, 1, 2, 1, 100);
    odds(x, 1, 3, 0, 1);
    odds(x, 9, 0, 1, 100);
    odds(x, 9, 2, 81, 100);
    odds(x, 9, 8, 0, 1);
  }

  private static void oddsRound() {
    TrayTurns three = Checks.told("n3;g0 0 a;g1 0 a;g2 0 a;");
    // all three turn it or nobody does: TURN 0 either way
    odds(three, 5, 0, 1, 4);
    odds(three, 5, 1, 3, 8);
    odds(three, 5, 2, 3, 8);
    odds(three, 10, 0, 1, 1);
    odds(three, 1, 0, 73, 100);
    three.spins(2, 0);
    odds(three, 10, 2, 1, 1);
    odds(three, 1, 2, 73, 100);
    odds(three, 1, 0, 243, 1000);
    TrayTurns last = Checks.told("n9;g0 0 a;");
    last.spins(1, 1);
    odds(last, 3, 8, 7, 10);
    odds(last, 3, 0, 3, 10);
    odds(last, 3, 1, 0, 1);
    due("16: nothing is TURNED", last.now(0), 8);
  }

  private static void oddsInLeastTerms() {
    TrayTurns one = Checks.told("g0 0 a;");
    int[][] most = {{0, 1}, {1, 10}, {1, 5}, {3, 10}, {2, 5}, {1, 2}, {3, 5}, {7, 10}, {4, 5}, {9, 10}, {1, 1}};
    for (int by = 0; by <= 10; by++) {
      odds(one, by, 1, most[by][0], most[by][1]);
      odds(one, by, 0, most[10 - by][0], most[10 - by][1]);
    }
    TrayTurns six = Checks.told("n7;g0 0 a;g1 0 a;g2 0 a;g3 0 a;g4 0 a;g5 0 a;");
    odds(six, 1, 6, 1, 1000000);
    odds(six, 9, 6, 531441, 1000000);
    odds(six, 5, 3, 5, 16);
    odds(six, 5, 0, 1, 64);
    odds(six, 2, 6, 1, 15625);
    odds(six, 4, 3, 864, 3125);
  }

  // ---- promises 17 to 20

  private static void seeSix(TrayTurns x) {
    Checks.type(x, "n5;g0 0 a;g2 1 a;d0 1 0;d1 1 0;");
    x.table();
    for (int i = 0; i < 6; i++) x.sees(i % 2, i % 5, i % 3 == 0 ? 1 : 0);
  }

  private static void sixAreSeen() {
    TrayTurns x = Checks.told("n5;g0 0 a;d0 1 0;d1 1 0;");
    for (int i = 1; i <= 6; i++) {
      due("17: " + i, x.sees(1, 4, 1), i);
      due("17: count(3)", x.count(3), i);
    }
    CHECKS.changesNothing("17: a seventh", ForetoldEdgeTests::seeSix, y -> y.sees(0, 0, 0), FULL);
    CHECKS.changesNothing("17: one that was SEEN already", ForetoldEdgeTests::seeSix, y -> y.sees(0, 0, 1), FULL);
    CHECKS.changesNothing("17: BAD ahead of FULL, no such DISH", ForetoldEdgeTests::seeSix, y -> y.sees(2, 0, 0), BAD);
    CHECKS.changesNothing("17: BAD ahead of FULL, no such TURN", ForetoldEdgeTests::seeSix, y -> y.sees(0, 5, 0), BAD);
    CHECKS.changesNothing("17: BAD ahead of FULL, reached 2", ForetoldEdgeTests::seeSix, y -> y.sees(0, 0, 2), BAD);
    due("18: of six", x.forget(), 6);
    due("18: of none", x.forget(), 0);
    due("18: none are left", x.count(3), 0);
    for (int i = 1; i <= 6; i++) due("17: " + i + " anew", x.sees(0, 0, 1), i);
    due("17: a seventh anew", x.sees(0, 0, 1), FULL);
    due("19: what was forgotten does not count", x.who(), 1);
    // the sixth counts as the first does
    TrayTurns y = Checks.told("n5;g0 0 a;g1 0 a;d0 1 0;");
    for (int i = 0; i < 5; i++) y.sees(0, 4, 0);
    due("19: both by five", y.who(), 3);
    y.sees(0, 1, 1);
    due("19: one by the sixth", y.who(), 2);
    y.sees(0, 1, 0);
    due("19: no seventh", y.who(), 2);
  }

  private static void whoAsAllLiesNow() {
    TrayTurns x = Checks.told("n9;g0 0 a;g1 1 a;g2 2 a;g3 0 a;g4 1 a;g5 2 a;d0 1 0;");
    due("19: nothing SEEN: everybody", x.who(), 63);
    x.sees(0, 8, 0);
    due("19: round by 0", x.who(), 63);
    x.sees(0, 0, 1);
    due("19: three reach it", x.who(), 1 + 2 + 4);
    x.sees(0, 4, 1);
    due("19: of these one", x.who(), 4);
    x.sees(0, 4, 0);
    due("19: both, and nobody", x.who(), 0);
    due("20: nobody", x.look(0), NONE);
    TrayTurns two = Checks.told("n9;g0 0 a;g4 0 a;d0 1 0;d4 1 0;");
    two.sees(1, 0, 1);
    due("19: by the last DISH", two.who(), 2);
    two.sees(0, 0, 0);
    due("19: by the first DISH, too", two.who(), 2);
    two.sees(0, 0, 1);
    due("19: by both nobody", two.who(), 0);
    TrayTurns y = Checks.told("n9;g0 0 a;g4 0 a;d0 1 0;");
    y.sees(0, 8, 1);
    due("19: nobody yet", y.who(), 0);
    y.moves(0, 1);
    due("19: MOVED round by 0", y.who(), 1);
    y.moves(0, 5);
    due("19: MOVED to the other one", y.who(), 2);
    y.changes(0, 1);
    due("19: CHANGED", y.who(), 1);
    y.spins(3, 0);
    due("19: TURNED, which does not count", y.who(), 1);
  }

  private static void lookForTwoAndOne() {
    TrayTurns x = Checks.told("n9;g3 0 a;g8 0 a;d0 1 0;");
    due("20: of two", x.look(0), 3);
    x.sees(0, 3, 0);
    due("20: of one", x.look(0), NONE);
    x.sees(0, 3, 1);
    due("20: of nobody", x.look(0), NONE);
    x.forget();
    due("20: of two again", x.look(0), 3);
    due("20: of one alone", Checks.told("n9;g3 0 a;d0 1 0;").look(0), NONE);
    // with SEATS 3 and ARM 1 everybody reaches all: no TURN parts them, all are as good
    due("20: of two whom nothing parts", Checks.told("n3;g0 1 a;g1 1 a;d0 1 0;").look(0), 0);
  }

  private static void lookOfSeveral() {
    // one reaches it always, one not across: they are parted by that TURN alone
    due("20: the last TURN", Checks.told("n4;g1 1 a;g0 2 a;d0 1 0;").look(0), 3);
    due("20: the first TURN", Checks.told("n4;g2 1 a;g0 2 a;d0 1 0;").look(0), 0);
    due("20: the greater part of four", Checks.told("n9;g7 2 a;g5 2 a;g6 2 a;g8 0 a;d8 1 0;").look(0), 5);
    due("20: halves ahead of one alone", Checks.told("n9;g1 0 a;g3 1 a;g4 1 a;g8 0 a;d0 1 0;").look(0), 3);
    due("20: reaching it or not, alike", Checks.told("n4;g0 1 a;g1 1 a;g2 1 a;d0 1 0;").look(0), 0);
    due("20: two thirds at best, of several the least", Checks.told("n9;g4 0 a;g6 0 a;g8 0 a;d0 1 0;").look(0), 4);
    TrayTurns x = Checks.told("n9;g0 0 a;g2 0 a;d3 1 0;");
    due("20: left over by SEATS", x.look(0), 6);
    x.spins(4, 0);
    due("20: TURN NOW does not count", x.look(0), 6);
    x.moves(0, 2);
    due("20: as it lies NOW", x.look(0), 0);
  }

  private static void badAheadOfNone() {
    TrayTurns x = Checks.told("g0 0 a;g1 0 a;d0 1 0;");
    due("14: TOUR is NONE", x.puts(0), NONE);
    due("14: BAD, where TOUR is NONE", x.puts(1), BAD);
    x.sees(0, 0, 1);
    due("20: one can be", x.look(0), NONE);
    due("20: BAD, where one can be", x.look(1), BAD);
    x.takes(0, 0);
    due("15: NONE", x.fed(1), NONE);
    due("15: BAD, where nobody is FED", x.fed(2), BAD);
    due("13: NONE are needed", x.steps(0, 0, 1), NONE);
    due("13: BAD, where none are needed", x.steps(0, 0, 2), BAD);
    due("16: BAD, where the upper number is 0", x.odds(0, 6, 0), BAD);
  }

  private static void foretellingChangesNothing() {
    TrayTurns x = new TrayTurns();
    Checks.busy(x);
    Watch.Call[] calls = {y -> y.steps(1, 1, 0), y -> y.steps(1, 1, 1), y -> y.puts(1), y -> y.fed(1), y -> y.odds(3, 2, 0),
      y -> y.odds(3, 2, 1), y -> y.who(), y -> y.look(1), y -> y.count(0), y -> y.trace()};
    for (int i = 0; i < calls.length; i++) {
      Watch.Call call = calls[i];
      CHECKS.changesNothing("13 to 20: asking call " + i, Checks::busy, call, call.on(x));
    }
  }
}
