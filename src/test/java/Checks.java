/** Counts and prints the answers that are not as due; what the tests share. */
final class Checks {
  private int wrong = 0;
  private int asked = 0;

  void due(String what, long got, long want) {
    asked++;
    if (got != want) {
      wrong++;
      if (wrong <= 40) System.out.println(what + " answered " + got + ", due is " + want);
    }
  }

  void holds(String what, boolean so) {
    asked++;
    if (!so) {
      wrong++;
      System.out.println(what);
    }
  }

  /** The call answers that, and nothing can be told of the object then that could not be told without it. */
  void changesNothing(String what, Watch.Run before, Watch.Call call, long want) {
    TrayTurns x = new TrayTurns();
    before.on(x);
    due(what, call.on(x), want);
    holds(what + " has changed something", Watch.all(before).equals(Watch.all(y -> {
      before.on(y);
      call.on(y);
    })));
  }

  /**
   * One number of a call: the least and the most that are allowed are not BAD; those beside them and far off are,
   * and change nothing.
   */
  void limits(String what, Watch.Run before, int least, int most, Watch.CallWith number) {
    for (int v : new int[] {least, most}) {
      TrayTurns x = new TrayTurns();
      before.on(x);
      holds(what + " with " + v + " is BAD", number.on(x, v) != TrayTurns.BAD);
    }
    for (int v : new int[] {least - 1, most + 1, Integer.MIN_VALUE, Integer.MAX_VALUE})
      changesNothing(what + " with " + v, before, x -> number.on(x, v), TrayTurns.BAD);
  }

  int wrong() {
    return wrong;
  }

  /** Ends the program, by exit code 1 if an answer was not as due. */
  void end(String name) {
    System.out.println(name + ": " + asked + " asked, " + wrong + " wrong");
    if (wrong > 0 || asked == 0) System.exit(1);
  }

  static void type(TrayTurns x, String text) {
    for (int i = 0; i < text.length(); i++) x.type(text.charAt(i));
  }

  /** A new object to which the text has been told. */
  static TrayTurns told(String text) {
    TrayTurns x = new TrayTurns();
    type(x, text);
    if (x.table() < 0) throw new IllegalStateException("FAULT in " + text);
    return x;
  }

  /**
   * SEATS 7, 3 GUESTS, 3 DISHES, and something of all that there is: TURN 5, the third DISH has no PORTIONS,
   * four calls may be UNDONE, both IMAGES are kept, two are SEEN, THE TRACE is 1112, THE TEXT has begun.
   */
  static void busy(TrayTurns x) {
    type(x, "n7;g0 0 ab;g3 1 bc;g6 2 af;d0 3 1;d4 9 0;d5 1 1;");
    x.table();
    x.keep(1);
    x.takes(0, 0);
    x.spins(5, 0);
    x.keep(0);
    x.moves(0, 1);
    x.changes(0, 2);
    x.sees(0, 0, 1);
    x.sees(1, 6, 0);
    x.rate(3, 0);
    x.rate(2, 1);
    type(x, "n4;g0 1 c");
  }
}
