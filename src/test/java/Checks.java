/** Counts and prints the answers that are not as due; what the tests share. */
final class Checks {
  private int wrong = 0;
  private int asked = 0;

  void due(String what, long got, long want) {
    asked++;
    if (got != want) {
      wrong++;
      if (wrong <= 40) System.out.println(what + " answered " + got + ", due is " + want);
    }
  }

  void holds(String what, boolean so) {
    asked++;
    if (!so) {
      wrong++;
      System.out.println(what);
    }
  }

  int wrong() {
    return wrong;
  }

  /** Ends the program, by exit code 1 if an answer was not as due. */
  void end(String name) {
    System.out.println(name + ": " + asked + " asked, " + wrong + " wrong");
    if (wrong > 0 || asked == 0) System.exit(1);
  }

  static void type(TrayTurns x, String text) {
    for (int i = 0; i < text.length(); i++) x.type(text.charAt(i));
  }

  /** A new object to which the text has been told. */
  static TrayTurns told(String text) {
    TrayTurns x = new TrayTurns();
    type(x, text);
    if (x.table() < 0) throw new IllegalStateException("FAULT in " + text);
    return x;
  }
}
