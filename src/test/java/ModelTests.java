import java.util.ArrayDeque;
import java.util.ArrayList;
import java.util.Arrays;
import java.util.Deque;
import java.util.List;
import java.util.Random;
import java.util.regex.Matcher;
import java.util.regex.Pattern;

/** Long mixed runs, every answer of which is compared with that of a model that tries everything out. */
public final class ModelTests {
  private static final Checks CHECKS = new Checks();
  private static final int BAD = -1, STATE = -2, FULL = -3, NONE = -9, NO = -1000000;

  /** The document once more, by brute force, in other words than the program's. */
  private static final class Model {
    record Guest(int arm, int likes) {}
    record Sight(int d, int t, boolean reached) {}
    record Snap(int turn, int[] portions, int[] place, int[] seat, int[] had) {}

    StringBuilder text = new StringBuilder();
    int n = 6, turn = 0;
    List<Guest> guests = new ArrayList<>();
    List<Boolean> tall = new ArrayList<>();
    int[] portions = {}, place = {}, seat = {}, had = {};
    Deque<Snap> undo = new ArrayDeque<>();
    Snap[] images = new Snap[2];
    List<Sight> seen = new ArrayList<>();
    long trace = 0;

    Snap snap() { return new Snap(turn, portions.clone(), place.clone(), seat.clone(), had.clone()); }

    void restore(Snap s) {
      turn = s.turn; portions = s.portions.clone(); place = s.place.clone(); seat = s.seat.clone(); had = s.had.clone();
    }

    void log() {
      undo.addLast(snap());
      if (undo.size() > 10) undo.removeFirst();
    }

    boolean g(int g) { return 0 <= g && g < guests.size(); }
    boolean d(int d) { return 0 <= d && d < tall.size(); }

    int type(int c) {
      if (c < 0 || c > 255) return BAD;
      if (text.length() == 140) return FULL;
      text.append((char) c);
      return text.length();
    }

    int clear() { int l = text.length(); text.setLength(0); return l; }

    record Token(String s, int at) {}

    int table() {
      List<Token> tokens = new ArrayList<>();
      Matcher m = Pattern.compile("[a-z]+|[0-9]+|[^ ]", Pattern.DOTALL).matcher(text);
      while (m.find()) tokens.add(new Token(m.group(), m.start()));
      int seats = 6, items = 0, i = 0;
      List<Guest> gs = new ArrayList<>();
      List<int[]> ds = new ArrayList<>();
      List<Integer> sits = new ArrayList<>(), lies = new ArrayList<>();
      while (i < tokens.size()) {
        String head = tokens.get(i).s;
        String[] shape;
        if (head.equals("n") && items == 0) shape = new String[] {"n", "N", ";"};
        else if (head.equals("g") && gs.size() < 6) shape = new String[] {"g", "S", "A", "R", ";"};
        else if (head.equals("d") && ds.size() < 6) shape = new String[] {"d", "P", "9", "T", ";"};
        else return -10 - tokens.get(i).at;
        for (int k = 0; k < shape.length; k++) {
          if (i + k >= tokens.size()) return -10 - text.length();
          String s = tokens.get(i + k).s;
          boolean ok = switch (shape[k]) {
            case "N" -> s.matches("[3-9]");
            case "S" -> s.matches("[0-9]") && Integer.parseInt(s) < seats && !sits.contains(Integer.parseInt(s));
            case "P" -> s.matches("[0-9]") && Integer.parseInt(s) < seats && !lies.contains(Integer.parseInt(s));
            case "A" -> s.matches("[0-2]");
            case "R" -> s.matches("[a-f]{1,6}");
            case "9" -> s.matches("[1-9]");
            case "T" -> s.matches("[01]");
            default -> s.equals(shape[k]);
          };
          if (!ok) return -10 - tokens.get(i + k).at;
        }
        if (head.equals("n")) seats = Integer.parseInt(tokens.get(i + 1).s);
        if (head.equals("g")) {
          sits.add(Integer.parseInt(tokens.get(i + 1).s));
          int likes = 0;
          for (char c : tokens.get(i + 3).s.toCharArray()) likes |= 1 << (c - 'a');
          gs.add(new Guest(Integer.parseInt(tokens.get(i + 2).s), likes));
        }
        if (head.equals("d")) {
          lies.add(Integer.parseInt(tokens.get(i + 1).s));
          ds.add(new int[] {Integer.parseInt(tokens.get(i + 2).s), Integer.parseInt(tokens.get(i + 3).s)});
        }
        items++;
        i += shape.length;
      }
      n = seats; turn = 0; guests = gs;
      tall = new ArrayList<>();
      for (int[] x : ds) tall.add(x[1] == 1);
      portions = ds.stream().mapToInt(x -> x[0]).toArray();
      place = lies.stream().mapToInt(x -> x).toArray();
      seat = sits.stream().mapToInt(x -> x).toArray();
      had = new int[gs.size()];
      undo.clear(); images = new Snap[2]; seen.clear(); text.setLength(0);
      return items;
    }

    boolean reaches(int g, int d, int t) {
      int s = (place[d] + t) % n;
      for (int a = -guests.get(g).arm; a <= guests.get(g).arm; a++) if ((seat[g] + a + 2 * n) % n == s) return true;
      return false;
    }

    int needs(int g) {
      int bits = 0;
      for (int d = 0; d < tall.size(); d++)
        if ((guests.get(g).likes & 1 << d) != 0 && (had[g] & 1 << d) == 0) bits |= 1 << d;
      return bits;
    }

    int reached(int g) {
      int bits = 0;
      for (int d = 0; d < tall.size(); d++) if (reaches(g, d, turn)) bits |= 1 << d;
      return bits;
    }

    int guest(int g, int what) {
      if (!g(g) || what < 0 || what > 5) return BAD;
      return new int[] {seat[g], guests.get(g).arm, guests.get(g).likes, had[g], needs(g), reached(g)}[what];
    }

    int dish(int d, int what) {
      if (!d(d) || what < 0 || what > 4) return BAD;
      int bits = 0;
      for (int g = 0; g < guests.size(); g++) if (reaches(g, d, turn)) bits |= 1 << g;
      return new int[] {place[d], portions[d], tall.get(d) ? 1 : 0, (place[d] + turn) % n, bits}[what];
    }

    int tour() {
      List<Integer> wanted = new ArrayList<>();
      int[] needing = new int[tall.size()];
      for (int g = 0; g < guests.size(); g++)
        for (int d = 0; d < tall.size(); d++)
          if ((needs(g) & 1 << d) != 0) {
            needing[d]++;
            int turns = 0;
            for (int t = 0; t < n; t++) if (reaches(g, d, t)) turns |= 1 << t;
            wanted.add(turns);
          }
      for (int d = 0; d < tall.size(); d++) if (needing[d] > portions[d]) return NONE;
      // breadth first over the TURN and all TURNS that have been
      int[][] far = new int[n][1 << n];
      for (int[] row : far) Arrays.fill(row, -1);
      Deque<int[]> next = new ArrayDeque<>();
      next.add(new int[] {turn, 1 << turn});
      far[turn][1 << turn] = 0;
      while (!next.isEmpty()) {
        int[] at = next.removeFirst();
        boolean all = true;
        for (int turns : wanted) if ((turns & at[1]) == 0) all = false;
        if (all) return far[at[0]][at[1]];
        for (int by : new int[] {1, n - 1}) {
          int t = (at[0] + by) % n, been = at[1] | 1 << t;
          if (far[t][been] < 0) {
            far[t][been] = far[at[0]][at[1]] + 1;
            next.add(new int[] {t, been});
          }
        }
      }
      throw new IllegalStateException();
    }

    int swap() {
      int now = tour(), best = NONE, least = now;
      if (now == NONE) return NONE;
      for (int a = 0; a < guests.size(); a++)
        for (int b = a + 1; b < guests.size(); b++) {
          Snap s = snap();
          int x = seat[a]; seat[a] = seat[b]; seat[b] = x;
          int t = tour();
          restore(s);
          if (t < least) { least = t; best = 10 * a + b; }
        }
      return best;
    }

    int[] best, trying;
    int bestFed;

    void tryAll(int g, int fed, int[] left) {
      if (g == guests.size()) {
        if (fed > bestFed) { bestFed = fed; best = trying.clone(); }
        return;
      }
      for (int d = 0; d < tall.size(); d++)
        if ((needs(g) & 1 << d) != 0 && left[d] > 0) {
          left[d]--; trying[g] = d;
          tryAll(g + 1, fed + 1, left);
          left[d]++;
        }
      trying[g] = NONE;
      tryAll(g + 1, fed, left);
    }

    void feed() {
      bestFed = -1;
      trying = new int[guests.size()];
      tryAll(0, 0, portions.clone());
    }

    int now(int what) {
      switch (what) {
        case 0: return turn;
        case 1: return Arrays.stream(portions).sum();
        case 2: return tour();
        case 3: return swap();
        case 4: feed(); return bestFed;
        case 5: return undo.size();
        default: return BAD;
      }
    }

    int spins(int k, int way) {
      if (k < 1 || k > 8 || k >= n || way < 0 || way > 1) return BAD;
      log();
      for (int i = 0; i < k; i++) turn = way == 0 ? (turn + 1) % n : (turn + n - 1) % n;
      int spilt = 0;
      for (int d = 0; k > 2 && d < portions.length; d++) if (tall.get(d) && portions[d] != 0) { portions[d]--; spilt++; }
      return spilt;
    }

    int takes(int g, int d) {
      if (!g(g) || !d(d)) return BAD;
      if (!reaches(g, d, turn) || portions[d] == 0) return STATE;
      log();
      had[g] |= 1 << d;
      return --portions[d];
    }

    boolean empty(int p) { return Arrays.stream(place).noneMatch(x -> x == p); }

    int moves(int d, int p) {
      if (!d(d) || p < 0 || p >= n) return BAD;
      if (!empty(p)) return STATE;
      log();
      int was = place[d];
      place[d] = p;
      return was;
    }

    int changes(int a, int b) {
      if (!g(a) || !g(b) || a == b) return BAD;
      log();
      int x = seat[a]; seat[a] = seat[b]; seat[b] = x;
      return seat[a];
    }

    int undo() {
      if (undo.isEmpty()) return STATE;
      restore(undo.removeLast());
      return undo.size();
    }

    int steps(int g, int d, int what) {
      if (!g(g) || !d(d) || what < 0 || what > 1) return BAD;
      for (int k = 0; ; k++) {
        if (reaches(g, d, (turn + k) % n)) return what == 0 ? k : k == 0 ? NONE : 0;
        if (reaches(g, d, (turn + n - k) % n)) return what == 0 ? k : 1;
      }
    }

    int puts(int d) {
      if (!d(d)) return BAD;
      int best = NONE, least = 1000;
      for (int p = 0; p < n; p++) {
        if (!empty(p) && place[d] != p) continue;
        int was = place[d];
        place[d] = p;
        int t = tour();
        place[d] = was;
        if (t != NONE && t < least) { least = t; best = p; }
      }
      return best;
    }

    int fed(int g) {
      if (!g(g)) return BAD;
      feed();
      return best[g];
    }

    int odds(int x, int t, int what) {
      if (x < 0 || x > 10 || t < 0 || t >= n || what < 0 || what > 1) return BAD;
      long up = 0, low = 1;
      for (int g = 0; g < guests.size(); g++) low *= 10;
      for (int who = 0; who < 1 << guests.size(); who++) {
        long p = 1;
        for (int g = 0; g < guests.size(); g++) p *= (who & 1 << g) != 0 ? x : 10 - x;
        if ((turn + Integer.bitCount(who)) % n == t) up += p;
      }
      long a = up, b = low;
      while (b != 0) { long r = a % b; a = b; b = r; }
      return (int) (what == 0 ? up / a : low / a);
    }

    int sees(int d, int t, int r) {
      if (!d(d) || t < 0 || t >= n || r < 0 || r > 1) return BAD;
      if (seen.size() == 6) return FULL;
      seen.add(new Sight(d, t, r == 1));
      return seen.size();
    }

    int forget() { int s = seen.size(); seen.clear(); return s; }

    int who() {
      int bits = 0;
      for (int g = 0; g < guests.size(); g++) {
        int gg = g;
        if (seen.stream().allMatch(s -> reaches(gg, s.d, s.t) == s.reached)) bits |= 1 << g;
      }
      return bits;
    }

    int look(int d) {
      if (!d(d)) return BAD;
      int who = who(), best = NONE, least = 1000;
      if (Integer.bitCount(who) <= 1) return NONE;
      for (int t = 0; t < n; t++) {
        int yes = 0, no = 0;
        for (int g = 0; g < guests.size(); g++) if ((who & 1 << g) != 0) { if (reaches(g, d, t)) yes++; else no++; }
        if (Math.max(yes, no) < least) { least = Math.max(yes, no); best = t; }
      }
      return best;
    }

    int rate(int kind, int g) {
      if (kind < 0 || kind > 5 || !g(g)) return NO;
      int base = Integer.bitCount(needs(g)), uncle = base + guests.get(g).arm, aunt = base - Integer.bitCount(reached(g));
      trace += new int[] {1, 11, 101, 1011, 10101, 100001}[kind];
      return new int[] {base, uncle, aunt, 2 * uncle, aunt + g, base + turn}[kind];
    }

    int keep(int i) {
      if (i < 0 || i > 1) return BAD;
      images[i] = snap();
      return turn;
    }

    int back(int i) {
      if (i < 0 || i > 1) return BAD;
      if (images[i] == null) return STATE;
      restore(images[i]);
      undo.clear();
      return turn;
    }

    int count(int what) {
      if (what < 0 || what > 4) return BAD;
      return new int[] {n, guests.size(), tall.size(), seen.size(), text.length()}[what];
    }
  }

  /** One object and its model, called alike; the calls so far are told where an answer is wrong. */
  private static final class Pair {
    final TrayTurns x = new TrayTurns();
    final Model m = new Model();
    final StringBuilder calls = new StringBuilder();
    int made = 0;

    void same(String call, long got, long want) {
      made++;
      calls.append(call).append(' ');
      if (got != want && CHECKS.wrong() == 0) System.out.println(calls);
      CHECKS.due(call, got, want);
    }

    void type(String text) {
      for (char c : text.toCharArray()) same("type(" + (int) c + ")", x.type(c), m.type(c));
    }

    void tellAnew(String text) {
      type(text);
      same("table() of '" + text + "'", x.table(), m.table());
      same("clear()", x.clear(), m.clear());
    }

    void act(Random r) {
      int a = r.nextInt(9) - 1, b = r.nextInt(9) - 1, c = r.nextInt(12) == 0 ? r.nextInt(4) - 1 : r.nextInt(2);
      int g = pick(r, m.guests.size()), d = pick(r, m.tall.size()), p = pick(r, m.n);
      switch (r.nextInt(15)) {
        case 0: case 1: same("spins(" + a + "," + c + ")", x.spins(a, c), m.spins(a, c)); break;
        case 2: case 3: case 4: case 5: same("takes(" + g + "," + d + ")", x.takes(g, d), m.takes(g, d)); break;
        case 6: case 7: same("moves(" + d + "," + p + ")", x.moves(d, p), m.moves(d, p)); break;
        case 8: { int h = pick(r, m.guests.size()); same("changes(" + g + "," + h + ")", x.changes(g, h), m.changes(g, h)); break; }
        case 9: same("undo()", x.undo(), m.undo()); break;
        case 10: { int k = pick(r, 2); same("keep(" + k + ")", x.keep(k), m.keep(k)); break; }
        case 11: { int k = r.nextInt(3) == 0 ? pick(r, 2) : 5; same("back(" + k + ")", x.back(k), m.back(k)); break; }
        case 12: case 13: same("sees(" + d + "," + p + "," + c + ")", x.sees(d, p, c), m.sees(d, p, c)); break;
        default: if (r.nextInt(3) == 0) same("forget()", x.forget(), m.forget()); else { int q = 1 + r.nextInt(2); same("spins(" + q + ",0)", x.spins(q, 0), m.spins(q, 0)); }
      }
    }

    void ask(Random r) {
      int g = pick(r, m.guests.size()), d = pick(r, m.tall.size()), p = pick(r, m.n), w = r.nextInt(8) - 1;
      switch (r.nextInt(12)) {
        case 0: same("guest(" + g + "," + w + ")", x.guest(g, w), m.guest(g, w)); break;
        case 1: same("dish(" + d + "," + w + ")", x.dish(d, w), m.dish(d, w)); break;
        case 2: case 3: same("now(" + w + ")", x.now(w), m.now(w)); break;
        case 4: { int k = pick(r, 2); same("steps(" + g + "," + d + "," + k + ")", x.steps(g, d, k), m.steps(g, d, k)); break; }
        case 5: same("puts(" + d + ")", x.puts(d), m.puts(d)); break;
        case 6: same("fed(" + g + ")", x.fed(g), m.fed(g)); break;
        case 7: { int y = r.nextInt(13) - 1, k = pick(r, 2); same("odds(" + y + "," + p + "," + k + ")", x.odds(y, p, k), m.odds(y, p, k)); break; }
        case 8: same("who()", x.who(), m.who()); break;
        case 9: same("look(" + d + ")", x.look(d), m.look(d)); break;
        case 10: same("rate(" + w + "," + g + ")", x.rate(w, g), m.rate(w, g)); same("trace()", x.trace(), m.trace); break;
        default: same("count(" + w + ")", x.count(w), m.count(w));
      }
    }
  }

  /** Mostly one that is there. */
  private static int pick(Random r, int many) {
    return r.nextInt(15) == 0 || many == 0 ? r.nextInt(many + 3) - 1 : r.nextInt(many);
  }

  private static String goodText(Random r) {
    StringBuilder s = new StringBuilder();
    int seats = 6;
    if (r.nextInt(5) > 0) s.append('n').append(seats = 3 + r.nextInt(7)).append(';');
    List<Integer> sits = shuffled(seats, r), lies = shuffled(seats, r);
    int guests = Math.min(seats, r.nextInt(8)), dishes = Math.min(seats, r.nextInt(8));
    int plenty = r.nextInt(2), short1 = r.nextInt(3);
    List<String> items = new ArrayList<>();
    for (int g = 0; g < Math.min(6, guests); g++) {
      StringBuilder row = new StringBuilder();
      for (int k = 1 + r.nextInt(short1 == 0 ? 1 : short1 == 1 ? 3 : 6); k > 0; k--) row.append((char) ('a' + r.nextInt(6)));
      items.add("g" + sits.get(g) + " " + r.nextInt(short1 == 1 ? 1 : 3) + " " + row + ";");
    }
    for (int d = 0; d < Math.min(6, dishes); d++)
      items.add("d" + lies.get(d) + " " + (plenty == 1 ? 4 + r.nextInt(6) : 1 + r.nextInt(3)) + " " + r.nextInt(2) + ";");
    java.util.Collections.shuffle(items, r);
    for (String i : items) s.append(i);
    return s.toString();
  }

  private static List<Integer> shuffled(int many, Random r) {
    List<Integer> all = new ArrayList<>();
    for (int i = 0; i < many; i++) all.add(i);
    java.util.Collections.shuffle(all, r);
    return all;
  }

  /** A good text with a few letters put in, out or in the place of others. */
  private static String oddText(Random r) {
    StringBuilder s = new StringBuilder(goodText(r));
    String some = "  ngdabcfhz;;0012369#A\u00e9\t\n:`{/";
    for (int k = r.nextInt(4); k > 0; k--) {
      int at = r.nextInt(s.length() + 1);
      char c = some.charAt(r.nextInt(some.length()));
      int how = r.nextInt(3);
      if (how == 0 || at == s.length()) s.insert(at, c);
      else if (how == 1) s.setCharAt(at, c);
      else s.deleteCharAt(at);
    }
    return s.toString();
  }

  public static void main(String[] args) {
    Random r = new Random(20261118L);
    for (int run = 0; run < 1500; run++) {
      Pair pair = new Pair();
      int texts = 1 + r.nextInt(2);
      for (int t = 0; t < texts; t++) {
        pair.tellAnew(goodText(r));
        // nothing is promised beyond 512 calls; ask() makes two at most
        for (int k = 0; k < 90 && pair.made < 509; k++) { pair.act(r); pair.ask(r); }
        if (r.nextInt(3) == 0 && pair.made < 200) pair.tellAnew(oddText(r));
      }
    }
    for (int run = 0; run < 20000; run++) {
      Pair pair = new Pair();
      pair.tellAnew(oddText(r));
      for (int what = 0; what < 5; what++) pair.same("count(" + what + ")", pair.x.count(what), pair.m.count(what));
    }
    CHECKS.end("ModelTests");
  }
}
