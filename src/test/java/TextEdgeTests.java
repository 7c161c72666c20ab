/** The edges of THE TEXT (promises 1 to 4, and what 'Terms' says of it): the last that is allowed, the first that isn't. */
public final class TextEdgeTests {
  private static final Checks CHECKS = new Checks();
  private static final int BAD = TrayTurns.BAD, STATE = TrayTurns.STATE, FULL = TrayTurns.FULL, NONE = TrayTurns.NONE;
  private static final int FAULT = -10;

  private static void due(String what, long got, long want) {
    CHECKS.due(what, got, want);
  }

  public static void main(String[] args) {
    asAtFirst();
    letters();
    fullText();
    emptyText();
    seats();
    seatsOfGuests();
    arms();
    likes();
    rows();
    places();
    portions();
    tall();
    sixGuests();
    sixDishes();
    unlikeSeats();
    unlikePlaces();
    firstOfAll();
    blanks();
    everyLetterAtTheHead();
    everyLetterBehindANumber();
    everyLetterInARow();
    everyLetterForANumber();
    wordsAtTheHead();
    bigNumbers();
    zerosAhead();
    endsTooEarly();
    endsByNothingElse();
    firstFault();
    faultChangesNothing();
    toldAnew();
    nothingOfOlderTexts();
    CHECKS.end("TextEdgeTests");
  }

  /** table() of that text answers that; THE TEXT is empty then, or stays. */
  private static void told(String what, String text, int want) {
    TrayTurns x = new TrayTurns();
    Checks.type(x, text);
    due(what + ": table() of '" + text + "'", x.table(), want);
    due(what + ": letters of '" + text + "'", x.count(4), want < 0 ? text.length() : 0);
  }

  // ---- promise 1

  private static void asAtFirst() {
    TrayTurns x = new TrayTurns();
    due("1: SEATS 6 at first", x.count(0), 6);
    due("1: TURN 0 at first", x.now(0), 0);
    due("1: no GUESTS", x.count(1), 0);
    due("1: not even the first", x.guest(0, 0), BAD);
    due("1: no DISHES", x.count(2), 0);
    due("1: not even the first", x.dish(0, 0), BAD);
    due("1: nothing SEEN", x.count(3), 0);
    due("1: THE TEXT is empty", x.count(4), 0);
    due("1: THE TRACE 0 at first", x.trace(), 0);
    due("1: nothing may be UNDONE", x.now(5), 0);
    due("1: nothing can be", x.undo(), STATE);
    due("1: no IMAGE 0", x.back(0), STATE);
    due("1: no IMAGE 1", x.back(1), STATE);
    due("1: the last PLACE is 5", x.odds(0, 5, 0), 0);
    due("1: there is no PLACE 6", x.odds(0, 6, 0), BAD);
  }

  // ---- promises 2 and 3

  private static void letters() {
    CHECKS.limits("2: type", x -> Checks.type(x, "n3"), 0, 255, (x, v) -> x.type(v));
    for (int c = 0; c < 256; c++) due("2: type(" + c + ")", new TrayTurns().type(c), 1);
  }

  private static void fullText() {
    TrayTurns x = new TrayTurns();
    for (int i = 1; i <= 140; i++) due("2: letter " + i, x.type(' '), i);
    Watch.Run full = y -> Checks.type(y, "n3;" + " ".repeat(137));
    CHECKS.changesNothing("2: letter 141", full, y -> y.type(' '), FULL);
    CHECKS.changesNothing("2: letter 141, of a text", full, y -> y.type('#'), FULL);
    CHECKS.changesNothing("2: BAD above ahead of FULL", full, y -> y.type(256), BAD);
    CHECKS.changesNothing("2: BAD below ahead of FULL", full, y -> y.type(-1), BAD);
    due("3: clear() of a full one", x.clear(), 140);
    due("3: empty then", x.count(4), 0);
    for (int i = 1; i <= 140; i++) due("2: letter " + i + " anew", x.type(' '), i);
    due("2: full anew", x.type(' '), FULL);
    due("4: table() of a full one", x.table(), 0);
    due("2: not full behind table()", x.type('n'), 1);
    TrayTurns y = new TrayTurns();
    Checks.type(y, "n9;g0 2 abcdef;g1 2 abcdef;g2 2 abcdef;g3 2 abcdef;g4 2 abcdef;g5 2 abcdef;");
    Checks.type(y, "d0 9 1;d1 9 1;d2 9 1;d3 9 1;d4 9 1;d8 9 1");
    Checks.type(y, " ".repeat(139 - y.count(4)) + ";");
    due("4: 140 letters of ITEMS", y.count(4), 140);
    due("4: all of them are read", y.table(), 13);
    due("4: the last one, too", y.dish(5, 0), 8);
    Checks.type(y, "n9;g0 2 abcdef;" + " ".repeat(124));
    y.type('#');
    due("4: a FAULT in the last letter", y.table(), FAULT - 139);
    due("2: a FAULT leaves it full", y.type(' '), FULL);
  }

  private static void emptyText() {
    TrayTurns x = new TrayTurns();
    due("3: clear() of none", x.clear(), 0);
    x.type('n');
    due("3: clear() of one", x.clear(), 1);
    due("3: clear() of none again", x.clear(), 0);
    told("4: of none", "", 0);
    told("4: of a blank", " ", 0);
    told("4: of blanks", " ".repeat(140), 0);
    TrayTurns y = Checks.told("n9;g8 0 a;d8 1 0;");
    due("4: nothing tells all anew", y.table(), 0);
    int[] counts = {6, 0, 0, 0, 0};
    for (int what = 0; what < 5; what++) due("4: nothing told, count(" + what + ")", y.count(what), counts[what]);
    TrayTurns z = Checks.told("n9;");
    Checks.type(z, "n3;#");
    z.clear();
    due("3: nothing of it is left", z.table(), 0);
    due("3: nothing of it was read", z.count(0), 6);
  }

  // ---- NUMBERS that are too small, too large

  /** Every NUMBER up to 120 between these: read from the least to the most, a FAULT at its place else. */
  private static void numbers(String what, String ahead, String behind, int least, int most) {
    int items = 0;
    for (char c : (ahead + behind).toCharArray()) if (c == ';') items++;
    for (int v = 0; v <= 120; v++) told(what, ahead + v + behind, v >= least && v <= most ? items : FAULT - ahead.length());
    told(what + ", below 0", ahead + "-1" + behind, FAULT - ahead.length());
  }

  private static void seats() {
    numbers("4: SEATS", "n", ";", 3, 9);
    for (int n = 3; n <= 9; n++) due("4: SEATS " + n, Checks.told("n" + n + ";").count(0), n);
  }

  private static void seatsOfGuests() {
    numbers("4: SEAT without n", "g", " 0 a;", 0, 5);
    for (int n = 3; n <= 9; n++) {
      numbers("4: SEAT of " + n, "n" + n + ";g", " 0 a;", 0, n - 1);
      due("4: the last SEAT of " + n, Checks.told("n" + n + ";g" + (n - 1) + " 0 a;").guest(0, 0), n - 1);
    }
    due("4: SEAT 0", Checks.told("g0 0 a;").guest(0, 0), 0);
  }

  private static void arms() {
    numbers("4: ARM", "g0 ", " a;", 0, 2);
    for (int n = 0; n <= 2; n++) due("4: ARM " + n, Checks.told("g0 " + n + " a;").guest(0, 1), n);
  }

  private static void places() {
    numbers("4: PLACE without n", "d", " 1 0;", 0, 5);
    for (int n = 3; n <= 9; n++) {
      numbers("4: PLACE of " + n, "n" + n + ";d", " 1 0;", 0, n - 1);
      due("4: the last PLACE of " + n, Checks.told("n" + n + ";d" + (n - 1) + " 1 0;").dish(0, 0), n - 1);
    }
    due("4: PLACE 0", Checks.told("d0 1 0;").dish(0, 0), 0);
  }

  private static void portions() {
    numbers("4: PORTIONS", "d0 ", " 0;", 1, 9);
    for (int n = 1; n <= 9; n++) due("4: PORTIONS " + n, Checks.told("d0 " + n + " 0;").dish(0, 1), n);
  }

  private static void tall() {
    numbers("4: TALL", "d0 1 ", ";", 0, 1);
    for (int n = 0; n <= 1; n++) due("4: TALL " + n, Checks.told("d0 1 " + n + ";").dish(0, 2), n);
  }

  private static void bigNumbers() {
    // each is one that may stand there, by as much as an int, a long or a short row of digits holds
    String[] big = {"99", "100", "103", "999", "259", "65539", "4294967299", "18446744073709551619", "3" + "0".repeat(60)};
    for (String n : big) {
      told("4: as SEATS", "n" + n + ";", FAULT - 1);
      told("4: as SEAT", "g" + n + " 0 a;", FAULT - 1);
      told("4: as PORTIONS", "d0 " + n + " 0;", FAULT - 3);
      told("4: at the head", n + ";", FAULT);
      told("4: in a row's place", "g0 0 " + n + ";", FAULT - 5);
      told("4: in the place of ;", "n3 " + n + ";", FAULT - 3);
    }
    told("4: a text full of digits", "1".repeat(140), FAULT);
    told("4: digits to the end", "n" + "3".repeat(139), FAULT - 1);
  }

  private static void zerosAhead() {
    told("4: 0 alone", "g0 0 a;", 1);
    told("4: 00", "g00 0 a;", FAULT - 1);
    told("4: 01", "g01 0 a;", FAULT - 1);
    told("4: SEATS 03", "n03;", FAULT - 1);
    told("4: ARM 00", "g0 00 a;", FAULT - 3);
    told("4: PLACE 05", "d05 1 0;", FAULT - 1);
    told("4: PORTIONS 09", "d0 09 0;", FAULT - 3);
    told("4: TALL 01", "d0 1 01;", FAULT - 5);
    told("4: TALL 00", "d0 1 00;", FAULT - 5);
    told("4: many 0", "n" + "0".repeat(20) + "3;", FAULT - 1);
    told("4: 0 and another NUMBER", "g0 0 1;", FAULT - 5);
  }

  // ---- rows

  private static void rows() {
    for (int many = 1; many <= 9; many++) {
      told("4: a row of " + many, "g0 0 " + "abcdefabc".substring(0, many) + ";", many <= 6 ? 1 : FAULT - 5);
      told("4: a row of " + many + " alike", "g0 0 " + "f".repeat(many) + ";", many <= 6 ? 1 : FAULT - 5);
    }
    told("4: a row of none", "g0 0 ;", FAULT - 5);
    told("4: a row in two", "g0 0 a b;", FAULT - 7);
    told("4: another one at its end", "g0 0 abcdeg;", FAULT - 5);
    told("4: another one at its head", "g0 0 gabcde;", FAULT - 5);
    told("4: z", "g0 0 z;", FAULT - 5);
    told("4: a row beside its NUMBER", "g0 0abc;", 1);
  }

  private static void likes() {
    for (int d = 0; d < 6; d++) {
      TrayTurns x = Checks.told("g0 0 " + (char) ('a' + d) + ";");
      due("5: LIKES one letter", x.guest(0, 2), 1 << d);
      due("5: NEEDS nothing that is not there", x.guest(0, 4), 0);
    }
    due("5: all", Checks.told("g0 0 abcdef;").guest(0, 2), 63);
    due("5: told twice", Checks.told("g0 0 aa;").guest(0, 2), 1);
    due("5: told six times", Checks.told("g0 0 ffffff;").guest(0, 2), 32);
    due("5: two told twice, in any order", Checks.told("g0 0 cafcaf;").guest(0, 2), 1 + 4 + 32);
    due("5: d is a DISH in a row, too", Checks.told("g0 0 d;").guest(0, 2), 8);
    TrayTurns x = Checks.told("g0 0 bc;d3 1 0;d4 1 0;");
    due("5: LIKES what is not there, too", x.guest(0, 2), 6);
    due("5: NEEDS the last that is there alone", x.guest(0, 4), 2);
    TrayTurns y = Checks.told("g0 0 b;d3 1 0;");
    due("7: no TOUR for what is not there", y.now(2), 0);
    due("7: nobody FED by it", y.now(4), 0);
    due("15: nor he", y.fed(0), NONE);
    due("21: nor RATE", y.rate(0, 0), 0);
  }

  // ---- ITEMS

  private static void sixGuests() {
    String six = "n9;g0 0 a;g1 0 a;g2 0 a;g3 0 a;g4 0 a;g5 0 a;";
    TrayTurns x = Checks.told(six);
    due("4: six GUESTS", x.count(1), 6);
    due("5: the sixth", x.guest(5, 0), 5);
    due("5: no seventh", x.guest(6, 0), BAD);
    told("4: a seventh g", six + "g6 0 a;", FAULT - six.length());
    told("4: a seventh g, whatever is behind it", six + "g", FAULT - six.length());
    told("4: a seventh g with an odd SEAT", six + " g 99", FAULT - six.length() - 1);
    told("4: a seventh g behind a d", six + "d0 1 0;g6 0 a;", FAULT - six.length() - 7);
    told("4: six g and a d", six + "d0 1 0;", 8);
    String three = "n3;g0 0 a;g1 0 a;g2 0 a;";
    told("4: no SEAT for a fourth", three + "g2 0 a;", FAULT - three.length() - 1);
  }

  private static void sixDishes() {
    String six = "n9;d0 1 0;d1 1 0;d2 1 0;d3 1 0;d4 1 0;d5 1 0;";
    TrayTurns x = Checks.told(six);
    due("4: six DISHES", x.count(2), 6);
    due("6: the sixth", x.dish(5, 0), 5);
    due("6: no seventh", x.dish(6, 0), BAD);
    told("4: a seventh d", six + "d6 1 0;", FAULT - six.length());
    told("4: a seventh d, whatever is behind it", six + "d", FAULT - six.length());
    told("4: a seventh d with an odd PLACE", six + " d 99", FAULT - six.length() - 1);
    told("4: a seventh d behind a g", six + "g0 0 a;d6 1 0;", FAULT - six.length() - 7);
    told("4: six d and a g", six + "g0 0 d;", 8);
    String three = "n3;d0 1 0;d1 1 0;d2 1 0;";
    told("4: no PLACE for a fourth", three + "d2 1 0;", FAULT - three.length() - 1);
  }

  private static void unlikeSeats() {
    String[] ahead = {"g0 0 a;", "g1 0 a;", "g2 0 a;", "g3 0 a;", "g4 0 a;"};
    StringBuilder some = new StringBuilder();
    for (int many = 0; many < 5; many++) {
      some.append(ahead[many]);
      for (int s = 0; s < 6; s++)
        told("4: SEAT " + s + " behind " + (many + 1), some + "g" + s + " 0 a;", s > many ? many + 2 : FAULT - some.length() - 1);
    }
    told("4: a SEAT may be a PLACE, too", "d0 1 0;g0 0 a;", 2);
  }

  private static void unlikePlaces() {
    String[] ahead = {"d5 1 0;", "d4 1 0;", "d3 1 0;", "d2 1 0;", "d1 1 0;"};
    StringBuilder some = new StringBuilder();
    for (int many = 0; many < 5; many++) {
      some.append(ahead[many]);
      for (int p = 0; p < 6; p++)
        told("4: PLACE " + p + " behind " + (many + 1), some + "d" + p + " 1 0;", p < 5 - many ? many + 2 : FAULT - some.length() - 1);
    }
    told("4: a PLACE may be a SEAT, too", "g5 0 a;d5 1 0;", 2);
  }

  private static void firstOfAll() {
    told("4: n alone", "n3;", 1);
    told("4: n ahead of others", "n3;g0 0 a;d0 1 0;", 3);
    told("4: n behind blanks", "   n3;", 1);
    told("4: n behind n", "n3;n3;", FAULT - 3);
    told("4: n behind g", "g0 0 a;n3;", FAULT - 7);
    told("4: n behind d", "d0 1 0;n3;", FAULT - 7);
    told("4: n behind n and g", "n3;g0 0 a; n3;", FAULT - 11);
    told("4: n behind another ITEM, with an odd NUMBER", "d0 1 0;n99;", FAULT - 7);
    told("4: n behind another ITEM, at the end", "d0 1 0;n", FAULT - 7);
    told("4: others in any order", "d0 1 0;g0 0 a;d1 1 0;g1 0 b;", 4);
  }

  // ---- TOKENS

  private static void blanks() {
    told("4: as few as can be", "n3;g0 0a;d0 1 0;", 3);
    told("4: as many as one likes", "  n  3  ;  g  0  0  a  ;  d  0  1  0  ;  ", 3);
    told("4: none between two NUMBERS", "g00 a;", FAULT - 1);
    told("4: none between PORTIONS and TALL", "d0 10;", FAULT - 3);
    told("4: none between g and a row", "ga0 0;", FAULT);
    told("4: one inside a NUMBER", "n1 0;", FAULT - 1);
    told("4: one inside a NUMBER, behind what may stand", "n3 0;", FAULT - 3);
    for (int c : new int[] {9, 10, 11, 12, 13, 28, 31, 33, 133, 160}) {
      told("4: letter " + c + " is no blank", (char) c + "n3;", FAULT);
      told("4: letter " + c + " is no blank between", "n" + (char) c + "3;", FAULT - 1);
      told("4: letter " + c + " is no blank behind", "n3;" + (char) c, FAULT - 3);
    }
  }

  private static boolean isSmall(int c) {
    return 'a' <= c && c <= 'z';
  }

  private static boolean isDigit(int c) {
    return '0' <= c && c <= '9';
  }

  private static void everyLetterAtTheHead() {
    for (int c = 0; c < 256; c++) {
      int want = FAULT;
      if (c == 'g') want = 1;
      // n 0, and d 0 with 0 PORTIONS
      if (c == 'n' || c == ' ') want = FAULT - 1;
      if (c == 'd') want = FAULT - 3;
      told("4: letter " + c + " at the head", (char) c + "0 0 a;", want);
      told("4: letter " + c + " behind an ITEM", "d5 1 0;" + (char) c + "0 0 a;", c == 'g' ? 2 : c == 'n' ? FAULT - 7 : want - 7);
    }
  }

  private static void everyLetterBehindANumber() {
    for (int c = 0; c < 256; c++) {
      int want = FAULT - 2;
      if (c == ' ') want = 1;
      if (c == ';') want = FAULT - 3;
      if (isDigit(c)) want = FAULT - 1;
      told("4: letter " + c + " behind a NUMBER", "n3" + (char) c + ";", want);
    }
  }

  private static void everyLetterInARow() {
    for (int c = 0; c < 256; c++) {
      int want = FAULT - 6;
      if (c == ' ' || 'a' <= c && c <= 'f') want = 1;
      else if (isSmall(c)) want = FAULT - 5;
      else if (c == ';') want = FAULT - 7;
      told("4: letter " + c + " in a row", "g0 0 a" + (char) c + ";", want);
      told("4: letter " + c + " as a row", "g0 0 " + (char) c + ";", 'a' <= c && c <= 'f' ? 1 : c == ' ' ? FAULT - 6 : FAULT - 5);
    }
  }

  private static void everyLetterForANumber() {
    for (int c = 0; c < 256; c++) {
      int want = FAULT - 5;
      if (c == '0' || c == '1') want = 1;
      if (c == ' ') want = FAULT - 6;
      told("4: letter " + c + " for a NUMBER", "d0 1 " + (char) c + ";", want);
    }
  }

  private static void wordsAtTheHead() {
    for (String word : new String[] {"nn", "gg", "dd", "gd", "dg", "ng", "na", "ag", "guest", "abcdef", "zzzzzzzzz"}) {
      told("4: " + word + " begins no ITEM", word + "0 1 0;", FAULT);
      told("4: " + word + " begins no ITEM behind one", "n3;  " + word + "0 1 0;", FAULT - 5);
    }
    for (String word : new String[] {"n", "g", "d"}) {
      told("4: " + word + " for SEATS", "n" + " " + word + ";", FAULT - 2);
      told("4: " + word + " for a SEAT", "g " + word + " 0 a;", FAULT - 2);
      told("4: " + word + " for an ARM", "g0 " + word + " a;", FAULT - 3);
      told("4: " + word + " for a PLACE", "d " + word + " 1 0;", FAULT - 2);
      told("4: " + word + " for PORTIONS", "d0 " + word + " 0;", FAULT - 3);
      told("4: " + word + " for TALL", "d0 1 " + word + ";", FAULT - 5);
      told("4: " + word + " in the place of ;", "n3 " + word + " 0;", FAULT - 3);
    }
    told("4: d for a row", "g0 0 d;", 1);
    told("4: n for a row", "g0 0 n;", FAULT - 5);
    told("4: g for a row", "g0 0 g;", FAULT - 5);
  }

  // ---- the end

  /** Cut off anywhere: ITEMS, where one has ended; else the length is the FAULT, blanks behind it counted. */
  private static void endsTooEarly() {
    String text = "n9;g8 2 abcdef;d8 9 1; g 0 0 a ; d 0 1 0 ;";
    int items = 0;
    boolean ended = true;
    for (int cut = 0; cut <= text.length(); cut++) {
      if (cut > 0 && text.charAt(cut - 1) == ';') {
        items++;
        ended = true;
      } else if (cut > 0 && text.charAt(cut - 1) != ' ') {
        ended = false;
      }
      String some = text.substring(0, cut);
      told("4: cut off", some, ended ? items : FAULT - cut);
      told("4: cut off, blanks", some + "   ", ended ? items : FAULT - cut - 3);
      String full = some + " ".repeat(140 - cut);
      told("4: cut off, full of blanks", full, ended ? items : FAULT - 140);
    }
  }

  private static void endsByNothingElse() {
    told("4: ; alone", ";", FAULT);
    told("4: ; behind an ITEM", "n3;;", FAULT - 3);
    told("4: ; behind n", "n;", FAULT - 1);
    told("4: ; behind g", "g;", FAULT - 1);
    told("4: ; behind a SEAT", "g0;", FAULT - 2);
    told("4: ; behind an ARM", "g0 0;", FAULT - 4);
    told("4: ; behind d", "d;", FAULT - 1);
    told("4: ; behind a PLACE", "d0;", FAULT - 2);
    told("4: ; behind PORTIONS", "d0 1;", FAULT - 4);
    told("4: a NUMBER too many for n", "n3 4;", FAULT - 3);
    told("4: a NUMBER too many for g", "g0 0 a 1;", FAULT - 7);
    told("4: a NUMBER too many for d", "d0 1 0 1;", FAULT - 7);
    told("4: the next ITEM in the place of ;", "n3 g0 0 a;", FAULT - 3);
    told("4: the next d in the place of ;", "g0 0 a d0 1 0;", FAULT - 7);
    told("4: the next g in the place of ;", "d0 1 0 g0 0 a;", FAULT - 7);
  }

  // ---- two that would be due, and a FAULT changes nothing

  private static void firstFault() {
    told("4: an odd NUMBER ahead of an odd letter", "n2;#", FAULT - 1);
    told("4: an odd NUMBER ahead of one above 99", "n2;n100;", FAULT - 1);
    told("4: an odd NUMBER ahead of a 0 ahead", "g6 00 a;", FAULT - 1);
    told("4: an odd NUMBER ahead of the end", "g6", FAULT - 1);
    told("4: a taken SEAT ahead of an odd ARM", "g0 0 a;g0 3 a;", FAULT - 8);
    told("4: a taken PLACE ahead of odd PORTIONS", "d0 1 0;d0 0 0;", FAULT - 8);
    told("4: an odd ARM ahead of an odd row", "g0 3 g;", FAULT - 3);
    told("4: odd PORTIONS ahead of odd TALL", "d0 0 2;", FAULT - 3);
    told("4: an odd row ahead of an odd letter", "g0 0 ag#;", FAULT - 5);
    told("4: an odd letter ahead of a row too long", "g0 0 ab#cdefab;", FAULT - 7);
    told("4: an odd letter ahead of an odd NUMBER", "#n2;", FAULT);
    told("4: n behind an ITEM ahead of its odd NUMBER", "d0 1 0;n2;", FAULT - 7);
    told("4: the first of two odd letters", "n3; # #", FAULT - 4);
    told("4: an odd letter glued to a NUMBER", "n3#;", FAULT - 2);
    told("4: an odd letter ahead of a NUMBER", "n#3;", FAULT - 1);
    told("4: a minus is an odd letter", "g-1 0 a;", FAULT - 1);
    told("4: a plus is an odd letter", "g+1 0 a;", FAULT - 1);
    told("4: a point is an odd letter", "g1.0 0 a;", FAULT - 2);
    told("4: capitals are odd letters", "N3;", FAULT);
    told("4: a capital in a row", "g0 0 aBc;", FAULT - 6);
  }

  private static void faultChangesNothing() {
    String[] texts = {"#", "n", "n2;", "n3;n3;", "n9;g8 2 f;d8 9 1", "g0 0 a;g1 1 b;d3 3 1;d4 4 0;d4 1 1;", "n3;g0 0 c;#",
      "n9;g0 0 a;g1 0 a;g2 0 a;g3 0 a;g4 0 a;g5 0 a;g6 0 a;"};
    int[] faults = {0, 1, 1, 3, 16, 29, 10, 45};
    for (int i = 0; i < texts.length; i++) {
      String text = texts[i];
      Watch.Run busy = x -> {
        Checks.busy(x);
        x.clear();
        Checks.type(x, text);
      };
      CHECKS.changesNothing("4: table() of '" + text + "'", busy, x -> x.table(), FAULT - faults[i]);
    }
    TrayTurns x = new TrayTurns();
    Checks.type(x, "n4;g3 0 a");
    due("4: too early", x.table(), FAULT - 9);
    due("4: the same again", x.table(), FAULT - 9);
    due("2: it goes on", x.type(';'), 10);
    due("4: and is read", x.table(), 2);
    due("4: from its beginning", x.count(0), 4);
    due("4: and is empty", x.count(4), 0);
  }

  // ---- all anew

  private static void toldAnew() {
    TrayTurns x = new TrayTurns();
    Checks.busy(x);
    long trace = x.trace();
    x.clear();
    Checks.type(x, "g5 1 a;d2 3 0;");
    due("4: ITEMS", x.table(), 2);
    due("4: SEATS 6, where they are not told", x.count(0), 6);
    due("4: GUESTS", x.count(1), 1);
    due("4: DISHES", x.count(2), 1);
    due("4: nothing SEEN", x.count(3), 0);
    due("4: THE TEXT is empty", x.count(4), 0);
    due("4: TURN 0", x.now(0), 0);
    due("4: PORTIONS as told", x.now(1), 3);
    due("4: PLACE as told", x.dish(0, 0), 2);
    due("4: SEAT as told", x.guest(0, 0), 5);
    due("4: nothing HAD", x.guest(0, 3), 0);
    due("4: nothing may be UNDONE", x.now(5), 0);
    due("4: nothing can be", x.undo(), STATE);
    due("4: IMAGE 0 is gone", x.back(0), STATE);
    due("4: IMAGE 1 is gone", x.back(1), STATE);
    due("4: WHO is everybody", x.who(), 1);
    due("4: THE TRACE goes on", x.trace(), trace);
    due("4: the second GUEST is gone", x.guest(1, 0), BAD);
    due("4: the second DISH is gone", x.dish(1, 0), BAD);
    due("4: PLACE 6 is gone", x.moves(0, 6), BAD);
    due("4: what was taken is empty", x.moves(0, 4), 2);
  }

  /** Whatever was told, or could not be, and was done before: a text tells what it tells a new object. */
  private static void nothingOfOlderTexts() {
    String[] texts = {"n9;g8 2 abcdef;g0 1 f;g4 2 ab;d7 9 1;d8 9 1;d1 9 1;d2 9 1;", "n3;g2 0 a;d2 1 0;", "", "d5 1 0;", "g5 0 b;",
      "n9;g8 2 abcdef;d8 9 1;d7 9 1;d6 9 1", "n4;", "d4 2 1;g4 1 ab;g0 0 a;", "n9;d8 9 1;d0 9 1;d1 9 1;#"};
    for (int first = 0; first < texts.length; first++)
      for (int second = 0; second < texts.length; second++)
        for (int third = 0; third < texts.length; third++) {
          TrayTurns x = new TrayTurns();
          for (int i : new int[] {first, second, third}) {
            x.clear();
            Checks.type(x, texts[i]);
            boolean read = x.table() >= 0;
            TrayTurns y = new TrayTurns();
            Checks.type(y, texts[i]);
            if (y.table() >= 0)
              CHECKS.holds("4: '" + texts[i] + "' behind others", read && Watch.answers(x).equals(Watch.answers(y)));
            x.takes(0, 0);
            x.spins(2, 0);
            x.sees(0, 1, 1);
            x.keep(i % 2);
          }
        }
  }
}
