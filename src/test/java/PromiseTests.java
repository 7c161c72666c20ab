/** Each promise by itself: ordinary inputs, the edges that the document names, and wrong inputs. */
public final class PromiseTests {
  private static final Checks CHECKS = new Checks();
  private static final int BAD = TrayTurns.BAD, STATE = TrayTurns.STATE, FULL = TrayTurns.FULL, NONE = TrayTurns.NONE;
  private static final int NO = TrayTurns.NO;

  /** Seats 8, guests at 0 (arm 0), 3 (arm 1), 6 (arm 2); dishes at 0 (2, tall), 4 (9), 5 (1, tall). */
  private static final String EIGHT = "n8;g0 0 ab;g3 1 bc;g6 2 af;d0 2 1;d4 9 0;d5 1 1;";

  private static void due(String what, long got, long want) {
    CHECKS.due(what, got, want);
  }

  public static void main(String[] args) {
    constants();
    newObject();
    type();
    clear();
    table();
    tableFaults();
    tableTellsAnew();
    guest();
    dish();
    now();
    tour();
    swap();
    spins();
    takes();
    moves();
    changes();
    undo();
    steps();
    puts();
    fed();
    odds();
    sees();
    forget();
    who();
    look();
    rate();
    images();
    count();
    trace();
    farOffNumbers();
    fullTable();
    CHECKS.end("PromiseTests");
  }

  private static void constants() {
    due("BAD", BAD, -1);
    due("STATE", STATE, -2);
    due("FULL", FULL, -3);
    due("NONE", NONE, -9);
    due("NO", NO, -1000000);
  }

  private static void newObject() {
    TrayTurns x = new TrayTurns();
    int[] counts = {6, 0, 0, 0, 0};
    for (int what = 0; what < 5; what++) due("1: count(" + what + ")", x.count(what), counts[what]);
    int[] nows = {0, 0, 0, NONE, 0, 0};
    for (int what = 0; what < 6; what++) due("1: now(" + what + ")", x.now(what), nows[what]);
    due("1: guest(0,0)", x.guest(0, 0), BAD);
    due("1: dish(0,0)", x.dish(0, 0), BAD);
    due("1: fed(0)", x.fed(0), BAD);
    due("1: look(0)", x.look(0), BAD);
    due("1: who()", x.who(), 0);
    due("1: undo()", x.undo(), STATE);
    due("1: back(0)", x.back(0), STATE);
    due("1: back(1)", x.back(1), STATE);
    due("1: trace()", x.trace(), 0L);
    due("1: spins(5,0)", x.spins(5, 0), 0);
    due("1: odds(3,5,0)", x.odds(3, 5, 0), 1);
    due("1: odds(3,5,1)", x.odds(3, 5, 1), 1);
    due("1: odds(3,0,0)", x.odds(3, 0, 0), 0);
    due("1: odds(3,0,1)", x.odds(3, 0, 1), 1);
  }

  private static void type() {
    TrayTurns x = new TrayTurns();
    due("2: type(0)", x.type(0), 1);
    due("2: type(255)", x.type(255), 2);
    due("2: type(256)", x.type(256), BAD);
    due("2: type(-1)", x.type(-1), BAD);
    for (int i = 3; i <= 140; i++) due("2: letter " + i, x.type(32), i);
    due("2: letter 141", x.type(32), FULL);
    due("2: BAD comes before FULL", x.type(256), BAD);
    due("2: count(4)", x.count(4), 140);
    due("2: clear()", x.clear(), 140);
    due("2: type() after clear()", x.type('n'), 1);
  }

  private static void clear() {
    TrayTurns x = Checks.told(EIGHT);
    due("3: clear() of none", x.clear(), 0);
    Checks.type(x, "n3;");
    due("3: clear()", x.clear(), 3);
    due("3: count(4)", x.count(4), 0);
    due("3: the table stays", x.count(1), 3);
    due("3: table() of what is left", x.table(), 0);
  }

  private static void table() {
    told("", 0);
    told("   ", 0);
    told("n3;", 1);
    told("n9;", 1);
    told("n 3 ; ", 1);
    told("g0 0 a;", 1);
    told("g 5 2 abcdef ;", 1);
    told("g0 0 ffffff;", 1);
    told("d5 9 1;", 1);
    told("d0 1 0;g0 0 d;d1 1 0;", 3);
    told("g00a;", -11);
    told("g0 0a;", 1);
    told("n9;g8 0 a;d8 1 0;", 3);
    told("d0 1 0;d1 1 0;d2 1 0;d3 1 0;d4 1 0;d5 1 0;", 6);
  }

  private static void tableFaults() {
    told("n2;", -11);
    told("n10;", -11);
    told("n;", -11);
    told("n a;", -12);
    told("n3", -12);
    told("n3  ", -14);
    told("n", -11);
    told("n3 3;", -13);
    told("n03;", -11);
    told("n100;", -11);
    told("n3;n4;", -13);
    told("g0 0 a;n4;", -17);
    told(";", -10);
    told("  ;", -12);
    told("n3;;", -13);
    told("5;", -10);
    told("a;", -10);
    told("nn3;", -10);
    told("gg0 0 a;", -10);
    told("h0 0 a;", -10);
    told("G0 0 a;", -10);
    told("g0 0 a;#", -17);
    told("g0 0 ab#;", -17);
    told("g0 0 aB;", -16);
    told("g0\t0 a;", -12);
    told("g6 0 a;", -11);
    told("n3;g3 0 a;", -14);
    told("g0 3 a;", -13);
    told("g0 0 5;", -15);
    told("g0 0 ;", -15);
    told("g0 0 abcdefa;", -15);
    told("g0 0 aaaaaaa;", -15);
    told("g0 0 abg;", -15);
    told("g0 0 ab cd;", -18);
    told("g0 0 ab 1;", -18);
    told("g0 0 a", -16);
    told("g0 0 ", -15);
    told("g0", -12);
    told("g0 0 a;g1 0 a;g0 0 a;", -25);
    told("n9;g0 0 a;g1 0 a;g2 0 a;g3 0 a;g4 0 a;g5 0 a;g6 0 a;", -55);
    told("n9;d0 1 0;d1 1 0;d2 1 0;d3 1 0;d4 1 0;d5 1 0;d6 1 0;", -55);
    told("d6 1 0;", -11);
    told("n5;d5 1 0;", -14);
    told("d0 0 0;", -13);
    told("d0 10 0;", -13);
    told("d0 1 2;", -15);
    told("d0 1 01;", -15);
    told("d00 1 0;", -11);
    told("d0 1 0;d0 1 0;", -18);
    told("d4294967296 1 0;", -11);
    told("d0 1 0 ", -17);
    told("d0 1 a;", -15);
    told("n2;#", -11);
    told("n g0 0 a;", -12);
    told("g d0 1 0;", -12);
    told("g0 d1 1 0;", -13);
    told("g0 0 g1 0 a;", -15);
    told("g0 0 a g1 0 a;", -17);
    told("d g0 0 a;", -12);
    told("d0 g0 0 a;", -13);
    told("d0 1 g0 0 a;", -15);
    told("d0 1 0 d1 1 0;", -17);
    told("z;", -10);
    told("nz3;", -10);
    told("`3;", -10);
    told("{3;", -10);
    told("n/;", -11);
    told("n:;", -11);
    told("g0 0 `;", -15);
    told((char) 0 + "n3;", -10);
    told((char) 255 + "n3;", -10);
    told("n3;" + " ".repeat(137), 1);
    told("n3" + " ".repeat(138), -150);
    told("n" + "3".repeat(139), -11);
    told("a".repeat(140), -10);
    TrayTurns x = Checks.told(EIGHT);
    x.spins(1, 0);
    x.sees(0, 0, 0);
    x.keep(0);
    Checks.type(x, "n3;g0 0 a;d0 1 0");
    due("4: FAULT", x.table(), -10 - 16);
    due("4: FAULT, the text stays", x.count(4), 16);
    due("4: FAULT, seats stay", x.count(0), 8);
    due("4: FAULT, guests stay", x.count(1), 3);
    due("4: FAULT, a seat stays", x.guest(1, 0), 3);
    due("4: FAULT, portions stay", x.dish(1, 1), 9);
    due("4: FAULT, TURN stays", x.now(0), 1);
    due("4: FAULT, SEEN stays", x.count(3), 1);
    due("4: FAULT, undo stays", x.now(5), 1);
    due("4: FAULT, an image stays", x.back(0), 1);
    x.type(';');
    due("4: mended", x.table(), 3);
    due("4: mended, SEATS", x.count(0), 3);
  }

  private static void told(String text, int want) {
    TrayTurns x = new TrayTurns();
    Checks.type(x, text);
    due("4: table() of '" + text + "'", x.table(), want);
    due("4: letters left of '" + text + "'", x.count(4), want < 0 ? text.length() : 0);
  }

  private static void tableTellsAnew() {
    TrayTurns x = Checks.told(EIGHT);
    x.takes(0, 0);
    x.spins(3, 0);
    x.sees(0, 0, 1);
    x.keep(0);
    x.keep(1);
    x.rate(0, 0);
    Checks.type(x, "g1 1 a;d2 3 0;");
    due("4: anew", x.table(), 2);
    due("4: anew, SEATS as at first", x.count(0), 6);
    due("4: anew, GUESTS", x.count(1), 1);
    due("4: anew, DISHES", x.count(2), 1);
    due("4: anew, nothing SEEN", x.count(3), 0);
    due("4: anew, TURN", x.now(0), 0);
    due("4: anew, nothing UNDONE", x.undo(), STATE);
    due("4: anew, IMAGE 0 is gone", x.back(0), STATE);
    due("4: anew, IMAGE 1 is gone", x.back(1), STATE);
    due("4: anew, nothing HAD", x.guest(0, 3), 0);
    due("4: anew, PORTIONS", x.dish(0, 1), 3);
    due("4: anew, TALL", x.dish(0, 2), 0);
    due("4: anew, THE TRACE goes on", x.trace(), 1L);
    due("4: of nothing", x.table(), 0);
    due("4: of nothing, GUESTS", x.count(1), 0);
    // what an older text, or one with a FAULT, has left behind must not come back
    String[] texts = {"n9;g8 2 f;d7 9 1;", "n9;g0 0 a;d1 1 0", "d5 1 0;", "n4;", "d4 1 0;g4 0 a;"};
    int[][] counts = {{9, 1, 1}, {9, 1, 1}, {6, 0, 1}, {4, 0, 0}, {6, 1, 1}};
    for (int i = 0; i < texts.length; i++) {
      Checks.type(x, texts[i]);
      x.table();
      x.clear();
      for (int what = 0; what < 3; what++) due("4: count(" + what + ") behind " + texts[i], x.count(what), counts[i][what]);
    }
    due("4: LIKES of the last text", x.guest(0, 2), 1);
    due("4: ARM of the last text", x.guest(0, 1), 0);
    due("4: TALL of the last text", x.dish(0, 2), 0);
  }

  private static void guest() {
    TrayTurns x = Checks.told(EIGHT);
    int[][] want = {{0, 0, 3, 0, 3, 1}, {3, 1, 6, 0, 6, 2}, {6, 2, 33, 0, 1, 1 + 2 + 4}};
    for (int g = 0; g < 3; g++)
      for (int what = 0; what < 6; what++) due("5: guest(" + g + "," + what + ")", x.guest(g, what), want[g][what]);
    x.takes(0, 0);
    due("5: HAD", x.guest(0, 3), 1);
    due("5: NEEDS", x.guest(0, 4), 2);
    due("5: LIKES stays", x.guest(0, 2), 3);
    x.takes(2, 1);
    due("5: HAD what is not liked", x.guest(2, 3), 2);
    x.takes(2, 0);
    due("5: HAD two", x.guest(2, 3), 3);
    due("5: HAD both that he likes", x.guest(2, 4), 0);
    x.undo();
    due("5: NEEDS stays", x.guest(2, 4), 1);
    for (int what : new int[] {-1, 6}) due("5: guest(0," + what + ")", x.guest(0, what), BAD);
    for (int g : new int[] {-1, 3}) due("5: guest(" + g + ",0)", x.guest(g, 0), BAD);
  }

  private static void dish() {
    TrayTurns x = Checks.told(EIGHT);
    x.spins(1, 1);
    int[][] want = {{0, 2, 1, 7, 4}, {4, 9, 0, 3, 2}, {5, 1, 1, 4, 2 + 4}};
    for (int d = 0; d < 3; d++)
      for (int what = 0; what < 5; what++) due("6: dish(" + d + "," + what + ")", x.dish(d, what), want[d][what]);
    for (int what : new int[] {-1, 5}) due("6: dish(0," + what + ")", x.dish(0, what), BAD);
    for (int d : new int[] {-1, 3}) due("6: dish(" + d + ",0)", x.dish(d, 0), BAD);
    x.takes(2, 2);
    due("6: one with no PORTIONS is reached, too", x.dish(2, 4), 6);
  }

  private static void now() {
    TrayTurns x = Checks.told(EIGHT);
    x.spins(2, 1);
    // guest 0 NEEDS a (2 more or 6 less) and b (6 more or 2 less), the others reach what they NEED;
    // where 0 and 2 CHANGE, only b for 0 is left, 4 either way
    int[] want = {6, 12, 2 + 2 + 2, 2, 3, 1};
    for (int what = 0; what < 6; what++) due("7: now(" + what + ")", x.now(what), want[what]);
    due("7: now(-1)", x.now(-1), BAD);
    due("7: now(6)", x.now(6), BAD);
  }

  private static void tour() {
    due("7: TOUR of nobody", Checks.told("d0 1 0;").now(2), 0);
    due("7: TOUR of nothing there", Checks.told("g0 0 b;d3 1 0;").now(2), 0);
    due("7: TOUR, NOW counts", Checks.told("g0 0 a;d0 1 0;").now(2), 0);
    due("7: TOUR, one way", Checks.told("n9;g0 0 a;d4 1 0;").now(2), 4);
    due("7: TOUR, the other way", Checks.told("n9;g0 0 a;d5 1 0;").now(2), 4);
    due("7: TOUR, there and back", Checks.told("n9;g0 0 ab;d1 1 0;d7 1 0;").now(2), 1 + 1 + 2);
    due("7: TOUR, all round is shorter", Checks.told("n9;g0 0 ab;d4 1 0;d6 1 0;").now(2), 5);
    due("7: TOUR, at most", Checks.told("n3;g0 0 abc;d0 1 0;d1 1 0;d2 1 0;").now(2), 2);
    due("7: TOUR NONE", Checks.told("g0 0 a;g1 0 a;d0 1 0;").now(2), NONE);
    TrayTurns x = Checks.told("n9;g0 0 a;g1 0 a;d0 1 0;");
    x.takes(0, 0);
    due("7: TOUR NONE, none left", x.now(2), NONE);
    x = Checks.told("n9;g4 0 a;d0 9 1;");
    due("7: TOUR of 4", x.now(2), 4);
    due("7: nothing is spilt by it", x.now(1), 9);
    due("7: nothing is turned by it", x.now(0), 0);
    x.spins(4, 0);
    x.takes(0, 0);
    due("7: TOUR, all HAD", x.now(2), 0);
  }

  private static void swap() {
    due("7: SWAP", Checks.told("n9;g0 0 a;g4 0 b;d4 1 0;d0 1 0;").now(3), 1);
    due("7: SWAP must be less", Checks.told("n9;g0 0 a;g4 0 a;d0 9 0;").now(3), NONE);
    due("7: SWAP of 1 and 2", Checks.told("n9;g8 0 f;g1 0 a;g3 0 b;d3 1 0;d1 1 0;").now(3), 12);
    due("7: SWAP of 1 and 3", Checks.told("n9;g8 0 f;g1 0 a;g5 0 f;g3 0 b;d3 1 0;d1 1 0;").now(3), 13);
    due("7: SWAP of 0 and 2", Checks.told("n9;g4 0 a;g0 0 b;g7 0 f;d7 1 0;d0 1 0;").now(3), 2);
    due("7: SWAP, the least number", Checks.told("n9;g3 0 a;g0 2 f;g1 2 f;g2 2 f;d0 1 0;").now(3), 1);
    due("7: SWAP, the least TOUR", Checks.told("n9;g3 0 a;g1 2 f;g0 2 f;g2 2 f;d0 1 0;").now(3), 2);
    due("7: SWAP NONE, TOUR NONE", Checks.told("g0 0 a;g4 0 a;d4 1 0;").now(3), NONE);
    TrayTurns x = Checks.told("n9;g0 0 a;g4 0 b;d4 1 0;d0 1 0;");
    x.now(3);
    due("7: SWAP changes nothing", x.guest(0, 0), 0);
    due("7: SWAP is not UNDONE", x.now(5), 0);
  }

  private static void spins() {
    TrayTurns x = Checks.told("n9;d0 2 1;d1 2 0;d2 1 1;");
    due("8: spins(1,0)", x.spins(1, 0), 0);
    due("8: TURN more", x.now(0), 1);
    due("8: spins(2,1)", x.spins(2, 1), 0);
    due("8: TURN less", x.now(0), 8);
    due("8: spins(2,0)", x.spins(2, 0), 0);
    due("8: TURN round", x.now(0), 1);
    due("8: nothing spilt", x.now(1), 5);
    due("8: spins(3,1)", x.spins(3, 1), 2);
    due("8: TURN", x.now(0), 7);
    due("8: spilt", x.dish(0, 1), 1);
    due("8: not spilt", x.dish(1, 1), 2);
    due("8: spins(8,0)", x.spins(8, 0), 1);
    due("8: TURN by 8", x.now(0), 6);
    due("8: spins(4,0), all spilt", x.spins(4, 0), 0);
    due("8: an empty one stays empty", x.dish(2, 1), 0);
    due("8: spins(0,0)", x.spins(0, 0), BAD);
    due("8: spins(9,0)", x.spins(9, 0), BAD);
    due("8: spins(-1,0)", x.spins(-1, 0), BAD);
    due("8: spins(1,2)", x.spins(1, 2), BAD);
    due("8: spins(1,-1)", x.spins(1, -1), BAD);
    due("8: all are known", x.now(5), 6);
    x = Checks.told("n3;");
    due("8: as many as SEATS", x.spins(3, 0), BAD);
    due("8: one less", x.spins(2, 0), 0);
  }

  private static void takes() {
    TrayTurns x = Checks.told("g0 0 a;g2 2 b;d0 2 0;d1 1 0;");
    due("9: takes(0,0)", x.takes(0, 0), 1);
    due("9: HAD", x.guest(0, 3), 1);
    due("9: takes more", x.takes(0, 0), 0);
    due("9: none left", x.takes(0, 0), STATE);
    due("9: none left for another one", x.takes(1, 0), STATE);
    due("9: not reached", x.takes(0, 1), STATE);
    due("9: by a long arm", x.takes(1, 1), 0);
    due("9: HAD by a long arm", x.guest(1, 3), 2);
    due("9: three are known", x.now(5), 3);
    due("9: takes(2,0)", x.takes(2, 0), BAD);
    due("9: takes(-1,0)", x.takes(-1, 0), BAD);
    due("9: takes(0,2)", x.takes(0, 2), BAD);
    due("9: takes(0,-1)", x.takes(0, -1), BAD);
    x = Checks.told("n9;g0 2 a;d7 9 0;");
    due("9: round the other way", x.takes(0, 0), 8);
    x.spins(1, 1);
    due("9: three away", x.takes(0, 0), STATE);
  }

  private static void moves() {
    TrayTurns x = Checks.told("n4;d0 1 0;d2 1 1;g0 0 a;");
    x.spins(1, 0);
    due("10: moves(0,3)", x.moves(0, 3), 0);
    due("10: PLACE", x.dish(0, 0), 3);
    due("10: before SEAT", x.dish(0, 3), 0);
    due("10: its own", x.moves(0, 3), STATE);
    due("10: another one's", x.moves(0, 2), STATE);
    due("10: what has become empty", x.moves(1, 0), 2);
    due("10: moves(2,1)", x.moves(2, 1), BAD);
    due("10: moves(-1,1)", x.moves(-1, 1), BAD);
    due("10: moves(0,4)", x.moves(0, 4), BAD);
    due("10: moves(0,-1)", x.moves(0, -1), BAD);
    due("10: nothing is spilt", x.now(1), 2);
    due("10: known", x.now(5), 3);
  }

  private static void changes() {
    TrayTurns x = Checks.told("g5 0 a;g1 2 b;g2 0 c;d1 1 0;");
    due("11: changes(0,1)", x.changes(0, 1), 1);
    due("11: SEAT of 0", x.guest(0, 0), 1);
    due("11: SEAT of 1", x.guest(1, 0), 5);
    due("11: SEAT of 2", x.guest(2, 0), 2);
    due("11: ARM stays his", x.guest(1, 1), 2);
    due("11: reaches then", x.guest(0, 5), 1);
    due("11: changes(2,1)", x.changes(2, 1), 5);
    due("11: alike", x.changes(1, 1), BAD);
    due("11: changes(0,3)", x.changes(0, 3), BAD);
    due("11: changes(3,0)", x.changes(3, 0), BAD);
    due("11: changes(-1,0)", x.changes(-1, 0), BAD);
    due("11: known", x.now(5), 2);
  }

  private static void undo() {
    TrayTurns x = Checks.told("g0 0 ab;g2 0 a;d0 3 1;d4 1 1;");
    x.takes(0, 0);
    x.takes(0, 0);
    x.spins(4, 0);
    x.moves(0, 1);
    x.changes(0, 1);
    x.takes(1, 0);
    due("12: refused", x.now(5), 5);
    due("12: undo changes()", x.undo(), 4);
    due("12: SEAT", x.guest(0, 0), 0);
    due("12: undo moves()", x.undo(), 3);
    due("12: PLACE", x.dish(0, 0), 0);
    due("12: undo spins()", x.undo(), 2);
    due("12: TURN", x.now(0), 0);
    due("12: PORTIONS", x.dish(0, 1), 1);
    due("12: only what was spilt", x.dish(1, 1), 1);
    due("12: undo takes()", x.undo(), 1);
    due("12: HAD before", x.guest(0, 3), 1);
    due("12: undo the first takes()", x.undo(), 0);
    due("12: HAD not", x.guest(0, 3), 0);
    due("12: all PORTIONS", x.dish(0, 1), 3);
    due("12: none", x.undo(), STATE);
    for (int i = 0; i < 13; i++) x.spins(1, 0);
    due("12: ten are known", x.now(5), 10);
    for (int left = 9; left >= 0; left--) {
      due("12: left " + left, x.undo(), left);
      due("12: TURN with left " + left, x.now(0), (3 + left) % 6);
    }
    due("12: older ones are lost", x.undo(), STATE);
    due("12: TURN of the oldest", x.now(0), 3);
    for (int i = 0; i < 10; i++) x.spins(1, 0);
    x.undo();
    x.undo();
    x.changes(0, 1);
    due("12: behind some UNDONE", x.now(5), 9);
    x.undo();
    due("12: SEAT again", x.guest(0, 0), 0);
    due("12: TURN again", x.now(0), (3 + 8) % 6);
  }

  private static void steps() {
    TrayTurns x = Checks.told("g0 0 a;g3 1 a;d0 1 0;d2 1 0;d3 1 0;d5 1 0;");
    int[][] want = {{0, 0, NONE}, {1, 2, 1}, {2, 3, 0}, {3, 1, 0}};
    for (int[] w : want) {
      due("13: STEPS for 0 and " + w[0], x.steps(0, w[0], 0), w[1]);
      due("13: WAY for 0 and " + w[0], x.steps(0, w[0], 1), w[2]);
    }
    due("13: by a longer arm", x.steps(1, 0, 0), 2);
    due("13: both alike", x.steps(1, 0, 1), 0);
    due("13: reached at the side", x.steps(1, 1, 0), 0);
    due("13: the other way by arm", x.steps(1, 3, 0), 1);
    due("13: its WAY", x.steps(1, 3, 1), 1);
    x.spins(1, 0);
    due("13: turned", x.steps(0, 1, 0), 3);
    due("13: turned, WAY", x.steps(0, 3, 1), NONE);
    due("13: steps(2,0,0)", x.steps(2, 0, 0), BAD);
    due("13: steps(-1,0,0)", x.steps(-1, 0, 0), BAD);
    due("13: steps(0,4,0)", x.steps(0, 4, 0), BAD);
    due("13: steps(0,-1,0)", x.steps(0, -1, 0), BAD);
    due("13: steps(0,0,2)", x.steps(0, 0, 2), BAD);
    due("13: steps(0,0,-1)", x.steps(0, 0, -1), BAD);
  }

  private static void puts() {
    TrayTurns x = Checks.told("n9;g4 1 a;g0 0 b;d0 1 0;d3 9 0;d4 1 0;");
    // b takes 3 STEPS less, by which a comes before 3 .. 5 from 3 .. 8, of which 3 and 4 are not empty
    due("14: PUT of a", x.puts(0), 5);
    // a takes 3 STEPS more, by which b comes before 0 from 6 .. 8
    due("14: PUT of b", x.puts(1), 6);
    due("14: of one that nobody NEEDS", x.puts(2), 1);
    due("14: nothing is MOVED", x.dish(0, 0), 0);
    due("14: nothing is known", x.now(5), 0);
    due("14: puts(3)", x.puts(3), BAD);
    due("14: puts(-1)", x.puts(-1), BAD);
    due("14: the first of all", Checks.told("g0 0 a;d3 1 0;").puts(0), 0);
    due("14: the last of all", Checks.told("g5 0 a;d3 1 0;").puts(0), 5);
    due("14: its own", Checks.told("g2 0 a;d2 1 0;").puts(0), 2);
    due("14: the lowest", Checks.told("g3 1 a;d5 1 0;").puts(0), 2);
    due("14: none is empty", Checks.told("n3;g0 0 c;d0 1 0;d1 1 0;d2 1 0;").puts(2), 2);
    due("14: NONE", Checks.told("g0 0 a;g1 0 a;d5 1 0;d0 1 0;").puts(1), NONE);
    TrayTurns y = Checks.told("n9;g0 0 a;d5 1 0;");
    y.spins(2, 0);
    due("14: TURNED", y.puts(0), 7);
  }

  private static void fed() {
    fedIs("g0 0 ab;g1 0 a;d3 1 0;d4 1 0;", 1, 0);
    fedIs("g0 0 ab;g1 0 ab;d3 1 0;d4 1 0;", 0, 1);
    fedIs("g0 0 ab;g1 0 ab;d3 2 0;d4 1 0;", 0, 0);
    fedIs("g0 0 a;g1 0 a;d3 1 0;", 0, NONE);
    fedIs("g0 0 b;g1 0 a;d3 1 0;", NONE, 0);
    fedIs("g0 0 abc;g1 0 ab;g2 0 a;d3 1 0;d4 1 0;d5 1 0;", 2, 1, 0);
    fedIs("g0 0 a;g1 0 ab;g2 0 b;d3 1 0;d4 1 0;", 0, 1, NONE);
    fedIs("g0 0 abcdef;g1 0 abcdef;g2 0 abcde;g3 0 abcd;g4 0 abc;g5 0 ab;d0 1 0;d1 1 0;d2 1 0;d3 1 0;d4 1 0;d5 1 0;", 0, 5, 4, 3, 2, 1);
    TrayTurns x = Checks.told("g0 0 ab;g1 0 a;d0 2 0;d4 1 0;");
    x.takes(0, 0);
    due("15: what he HAD is not NEEDED", x.fed(0), 1);
    due("15: what is left", x.fed(1), 0);
    due("15: nothing is TAKEN", x.now(1), 2);
    due("15: fed(2)", x.fed(2), BAD);
    due("15: fed(-1)", x.fed(-1), BAD);
    x.takes(0, 0);
    due("15: none left", x.fed(1), NONE);
    due("15: how many", x.now(4), 1);
  }

  private static void fedIs(String text, int... want) {
    TrayTurns x = Checks.told(text);
    int fed = 0;
    for (int g = 0; g < want.length; g++) {
      due("15: fed(" + g + ") of " + text, x.fed(g), want[g]);
      if (want[g] != NONE) fed++;
    }
    due("7: FED of " + text, x.now(4), fed);
  }

  private static void odds() {
    TrayTurns x = Checks.told("n3;g0 0 a;g1 0 a;");
    oddsAre(x, 3, 0, 49, 100);
    oddsAre(x, 3, 1, 21, 50);
    oddsAre(x, 3, 2, 9, 100);
    oddsAre(x, 0, 0, 1, 1);
    oddsAre(x, 0, 1, 0, 1);
    oddsAre(x, 10, 2, 1, 1);
    oddsAre(x, 10, 0, 0, 1);
    oddsAre(x, 5, 1, 1, 2);
    x.spins(2, 0);
    oddsAre(x, 3, 2, 49, 100);
    oddsAre(x, 3, 0, 21, 50);
    TrayTurns y = Checks.told("n4;g0 0 a;g1 0 a;g2 0 a;g3 0 a;");
    oddsAre(y, 5, 0, 1, 8);
    oddsAre(y, 1, 0, 3281, 5000);
    TrayTurns z = Checks.told("g0 0 a;g1 0 a;g2 0 a;g3 0 a;g4 0 a;g5 0 a;");
    oddsAre(z, 7, 1, 5103, 500000);
    oddsAre(z, 9, 0, 265721, 500000);
    due("16: odds(-1,0,0)", x.odds(-1, 0, 0), BAD);
    due("16: odds(11,0,0)", x.odds(11, 0, 0), BAD);
    due("16: odds(1,-1,0)", x.odds(1, -1, 0), BAD);
    due("16: odds(1,3,0)", x.odds(1, 3, 0), BAD);
    due("16: odds(1,0,-1)", x.odds(1, 0, -1), BAD);
    due("16: odds(1,0,2)", x.odds(1, 0, 2), BAD);
    due("16: nothing is turned", x.now(0), 2);
  }

  private static void oddsAre(TrayTurns x, int by, int t, int upper, int lower) {
    due("16: odds(" + by + "," + t + ",0)", x.odds(by, t, 0), upper);
    due("16: odds(" + by + "," + t + ",1)", x.odds(by, t, 1), lower);
  }

  private static void sees() {
    TrayTurns x = Checks.told("n5;g0 0 a;d0 1 0;d1 1 0;");
    due("17: sees(2,0,0)", x.sees(2, 0, 0), BAD);
    due("17: sees(-1,0,0)", x.sees(-1, 0, 0), BAD);
    due("17: sees(0,5,0)", x.sees(0, 5, 0), BAD);
    due("17: sees(0,-1,0)", x.sees(0, -1, 0), BAD);
    due("17: sees(0,0,2)", x.sees(0, 0, 2), BAD);
    due("17: sees(0,0,-1)", x.sees(0, 0, -1), BAD);
    due("17: nothing yet", x.count(3), 0);
    for (int i = 1; i <= 6; i++) due("17: SEEN " + i, x.sees(i % 2, 4, 0), i);
    due("17: a seventh", x.sees(0, 0, 1), FULL);
    due("17: BAD comes first", x.sees(0, 5, 1), BAD);
    due("17: six", x.count(3), 6);
    due("17: is not UNDONE", x.undo(), STATE);
  }

  private static void forget() {
    TrayTurns x = Checks.told(EIGHT);
    due("18: of none", x.forget(), 0);
    x.sees(0, 0, 1);
    x.sees(0, 1, 1);
    due("18: of two", x.forget(), 2);
    due("18: none are left", x.count(3), 0);
    due("18: WHO is everybody", x.who(), 7);
    due("18: from the beginning", x.sees(0, 0, 1), 1);
  }

  private static void who() {
    TrayTurns x = Checks.told(EIGHT);
    due("19: nothing SEEN", x.who(), 7);
    x.sees(0, 0, 1);
    // dish 0 before SEAT 0: guest 0, and 2, who sits two off
    due("19: reached", x.who(), 1 + 4);
    x.sees(0, 6, 0);
    due("19: not reached", x.who(), 1);
    x.spins(1, 0);
    due("19: TURN NOW does not count", x.who(), 1);
    x.moves(0, 1);
    // before SEATS 1 and 7 then: nobody reaches the first
    due("19: as it lies NOW", x.who(), 0);
    x.undo();
    x.changes(0, 1);
    // guest 1 (arm 1) sits at 0 then: he reaches it before 0, and not before 6
    due("19: as they sit NOW", x.who(), 2);
    x.undo();
    x.changes(1, 2);
    x.forget();
    x.sees(1, 2, 1);
    due("19: another DISH", x.who(), 2);
    x.keep(0);
    x.back(0);
    due("19: SEEN is not in an IMAGE", x.count(3), 1);
  }

  private static void look() {
    TrayTurns x = Checks.told("n9;g0 0 a;g1 0 a;g2 0 a;g3 0 a;d0 1 0;d5 1 0;");
    due("20: any one of four", x.look(0), 0);
    due("20: by another DISH", x.look(1), 4);
    x.sees(0, 1, 0);
    due("20: of three", x.look(0), 0);
    x.sees(0, 0, 0);
    due("20: of two", x.look(0), 2);
    x.sees(0, 2, 1);
    due("20: one", x.look(0), NONE);
    x.sees(0, 2, 0);
    due("20: nobody", x.look(0), NONE);
    due("20: look(2)", x.look(2), BAD);
    due("20: look(-1)", x.look(-1), BAD);
    TrayTurns y = Checks.told("n9;g0 2 a;g1 2 a;g4 2 a;g5 2 a;d0 1 0;");
    due("20: the greater part", y.look(0), 0);
    y.spins(3, 0);
    due("20: TURN NOW does not count", y.look(0), 0);
    due("20: all alike", Checks.told("n5;g0 2 a;g1 2 a;d0 1 0;").look(0), 0);
    due("20: not at the first TURN", Checks.told("n9;g4 0 a;g6 0 a;d0 1 0;").look(0), 4);
  }

  private static void rate() {
    TrayTurns x = Checks.told(EIGHT);
    x.spins(2, 0);
    // guest 2 at 6 with arm 2 NEEDS a; a lies before 2, b before 6, c before 7
    int[] want = {1, 1 + 2, 1 - 2, 2 * (1 + 2), 1 - 2 + 2, 1 + 2};
    long[] trace = {1, 11, 101, 1011, 10101, 100001};
    long all = 0;
    for (int kind = 0; kind < 6; kind++) {
      due("21: rate(" + kind + ",2)", x.rate(kind, 2), want[kind]);
      all += trace[kind];
      due("25: trace() of KIND " + kind, x.trace(), all);
    }
    int[] first = {2, 2, 2, 4, 2, 4};
    for (int kind = 0; kind < 6; kind++) due("21: rate(" + kind + ",0)", x.rate(kind, 0), first[kind]);
    all *= 2;
    due("21: rate(-1,0)", x.rate(-1, 0), NO);
    due("21: rate(6,0)", x.rate(6, 0), NO);
    due("21: rate(0,-1)", x.rate(0, -1), NO);
    due("21: rate(0,3)", x.rate(0, 3), NO);
    due("25: what is BAD is not traced", x.trace(), all);
  }

  private static void images() {
    TrayTurns x = Checks.told("g0 0 ab;g2 0 a;d0 3 1;d4 1 1;");
    due("23: none was kept", x.back(0), STATE);
    x.takes(0, 0);
    x.spins(1, 0);
    due("22: keep(0)", x.keep(0), 1);
    due("22: undo goes on", x.now(5), 2);
    x.spins(4, 0);
    x.moves(0, 1);
    x.changes(0, 1);
    x.sees(0, 0, 1);
    due("22: keep(1)", x.keep(1), 5);
    due("23: back(0)", x.back(0), 1);
    due("23: TURN", x.now(0), 1);
    due("23: PORTIONS", x.dish(0, 1), 2);
    due("23: PORTIONS of another one", x.dish(1, 1), 1);
    due("23: PLACE", x.dish(0, 0), 0);
    due("23: SEAT", x.guest(0, 0), 0);
    due("23: HAD", x.guest(0, 3), 1);
    due("23: SEEN stays", x.count(3), 1);
    due("23: nothing can be UNDONE", x.undo(), STATE);
    x.spins(1, 0);
    due("23: back(2)", x.back(2), BAD);
    due("23: refused, undo stays", x.now(5), 1);
    due("23: back(1)", x.back(1), 5);
    due("23: SEAT of 1", x.guest(0, 0), 2);
    due("23: PLACE of 1", x.dish(0, 0), 1);
    due("23: PORTIONS of 1", x.dish(0, 1), 1);
    x.spins(1, 0);
    due("23: back(1) again", x.back(1), 5);
    due("22: keep(0) anew", x.keep(0), 5);
    due("23: back(0) anew", x.back(0), 5);
    due("22: keep(2)", x.keep(2), BAD);
    due("22: keep(-1)", x.keep(-1), BAD);
    due("23: back(-1)", x.back(-1), BAD);
  }

  private static void count() {
    TrayTurns x = Checks.told(EIGHT);
    x.sees(0, 0, 0);
    x.type('g');
    x.type('0');
    int[] want = {8, 3, 3, 1, 2};
    for (int what = 0; what < 5; what++) due("24: count(" + what + ")", x.count(what), want[what]);
    due("24: count(-1)", x.count(-1), BAD);
    due("24: count(5)", x.count(5), BAD);
  }

  private static void trace() {
    TrayTurns x = Checks.told(EIGHT);
    due("25: at first", x.trace(), 0L);
    for (int i = 0; i < 400; i++) x.rate(5, 1);
    due("25: of many", x.trace(), 40000400L);
    x.undo();
    x.keep(0);
    x.back(0);
    due("25: goes on", x.trace(), 40000400L);
  }

  /** As many GUESTS and DISHES as can be, all of them at their most. */
  private static void fullTable() {
    String guests = "g0 2 abcdef;g1 2 abcdef;g2 2 abcdef;g3 2 abcdef;g4 2 abcdef;g8 0 abcdef;";
    TrayTurns x = Checks.told("n9;" + guests + "d0 9 1;d1 9 1;d2 9 1;d3 9 1;d4 9 1;d8 9 1;");
    due("full: PORTIONS", x.now(1), 54);
    // the fifth DISH takes 5 less to come before the last GUEST, no other one for any GUEST takes more
    due("full: TOUR", x.now(2), 5);
    due("full: SWAP", x.now(3), NONE);
    due("full: FED", x.now(4), 6);
    due("full: who()", x.who(), 63);
    for (int i = 0; i < 6; i++) {
      due("full: fed(" + i + ")", x.fed(i), 0);
      due("full: NEEDS of " + i, x.guest(i, 4), 63);
      due("full: PUT of " + i, x.puts(i) < 0 ? 0 : 1, 1);
      due("full: LOOK for " + i, x.look(i) < 0 ? 0 : 1, 1);
    }
    for (int i = 0; i < 6; i++) due("full: SEEN " + i, x.sees(i, 8, 0), i + 1);
    due("full: odds(10,6,0)", x.odds(10, 6, 0), 1);
    due("full: odds(9,1,1)", x.odds(9, 1, 1), 500000);
    due("full: spins(8,1)", x.spins(8, 1), 6);
    due("full: PORTIONS less six", x.now(1), 48);
    for (int i = 0; i < 12; i++) x.takes(0, 0);
    due("full: UNDONE", x.now(5), 9);
    due("full: reached by 0", x.guest(0, 5), 1 + 2 + 32);
    due("full: who reach 5", x.dish(5, 4), 1 + 2 + 4);
  }

  /** No number, however far off, makes a call fail. */
  private static void farOffNumbers() {
    int[] far = {Integer.MIN_VALUE, -1000000, 1000000, Integer.MAX_VALUE};
    for (TrayTurns x : new TrayTurns[] {new TrayTurns(), Checks.told(EIGHT)})
      for (int n : far) {
        long[] got = {x.type(n), x.guest(n, 0), x.guest(0, n), x.dish(n, 0), x.dish(0, n), x.now(n), x.spins(n, 0),
          x.spins(1, n), x.takes(n, 0), x.takes(0, n), x.moves(n, 0), x.moves(0, n), x.changes(n, 0), x.changes(0, n),
          x.changes(n, n), x.steps(n, 0, 0), x.steps(0, n, 0), x.steps(0, 0, n), x.puts(n), x.fed(n), x.odds(n, 0, 0),
          x.odds(0, n, 0), x.odds(0, 0, n), x.sees(n, 0, 0), x.sees(0, n, 0), x.sees(0, 0, n), x.look(n), x.keep(n),
          x.back(n), x.count(n)};
        for (int i = 0; i < got.length; i++) due("far off " + n + ", call " + i, got[i], BAD);
        due("far off, rate(" + n + ",0)", x.rate(n, 0), NO);
        due("far off, rate(0," + n + ")", x.rate(0, n), NO);
      }
  }
}
