import java.lang.reflect.Array;
import java.lang.reflect.Constructor;
import java.lang.reflect.Field;
import java.lang.reflect.Method;
import java.lang.reflect.Modifier;
import java.nio.file.Files;
import java.nio.file.Path;
import java.util.Arrays;
import java.util.IdentityHashMap;
import java.util.List;
import java.util.Map;
import java.util.Set;
import java.util.TreeMap;
import java.util.TreeSet;
import java.util.regex.Matcher;
import java.util.regex.Pattern;

/** The rules of LANGUAGE.md that can be seen from the file and the compiled class. */
public final class RuleTests {
  private static final Checks CHECKS = new Checks();

  private static final List<String> FACE = List.of("type/1", "clear/0", "table/0", "guest/2", "dish/2", "now/1",
      "spins/2", "takes/2", "moves/2", "changes/2", "undo/0", "steps/3", "puts/1", "fed/1", "odds/3", "sees/3",
      "forget/0", "who/0", "look/1", "rate/2", "keep/1", "back/1", "count/1", "trace/0");

  public static void main(String[] args) throws Exception {
    face();
    classesInside();
    words();
    room();
    CHECKS.end("RuleTests");
  }

  private static void face() {
    CHECKS.holds("rule 1: final", Modifier.isFinal(TrayTurns.class.getModifiers()));
    Set<String> open = new TreeSet<>();
    for (Method m : TrayTurns.class.getDeclaredMethods()) {
      boolean isPublic = Modifier.isPublic(m.getModifiers());
      CHECKS.holds("rule 1: " + m + " is neither public nor private", isPublic || Modifier.isPrivate(m.getModifiers()));
      if (isPublic) {
        open.add(m.getName() + "/" + m.getParameterCount());
        CHECKS.holds("rule 1: answer of " + m, m.getReturnType() == (m.getName().equals("trace") ? long.class : int.class));
        CHECKS.holds("rule 1: " + m + " is static", !Modifier.isStatic(m.getModifiers()));
      }
    }
    CHECKS.holds("rule 1: the face is " + open, open.equals(new TreeSet<>(FACE)));
    Set<String> constants = new TreeSet<>();
    for (Field f : TrayTurns.class.getDeclaredFields()) {
      if (Modifier.isPublic(f.getModifiers())) constants.add(f.getName());
      else CHECKS.holds("rule 1: " + f, Modifier.isPrivate(f.getModifiers()));
    }
    CHECKS.holds("rule 1: constants " + constants, constants.equals(new TreeSet<>(List.of("BAD", "STATE", "FULL", "NONE", "NO"))));
    Constructor<?>[] made = TrayTurns.class.getDeclaredConstructors();
    CHECKS.holds("rule 1: one constructor", made.length == 1 && Modifier.isPublic(made[0].getModifiers()) && made[0].getParameterCount() == 0);
  }

  private static void classesInside() {
    Class<?>[] inside = TrayTurns.class.getDeclaredClasses();
    CHECKS.holds("rule 11: " + inside.length + " classes inside", inside.length <= 12);
    for (Class<?> c : inside) {
      CHECKS.holds("rule 2: " + c + " is not static", Modifier.isStatic(c.getModifiers()));
      CHECKS.holds("rule 2: " + c + " holds classes", c.getDeclaredClasses().length == 0);
      checkMembers(c);
      for (Method m : c.getDeclaredMethods())
        CHECKS.holds("rule 1: " + m + " bears a public name", FACE.stream().noneMatch(f -> f.startsWith(m.getName() + "/")));
    }
    checkMembers(TrayTurns.class);
  }

  private static void checkMembers(Class<?> c) {
    long fields = Arrays.stream(c.getDeclaredFields()).filter(f -> !Modifier.isStatic(f.getModifiers())).count();
    CHECKS.holds("rule 11: " + c + " has " + fields + " fields", fields <= 20);
    for (Field f : c.getDeclaredFields())
      CHECKS.holds("rule 5: " + f, !Modifier.isStatic(f.getModifiers()) || Modifier.isFinal(f.getModifiers()));
    for (Method m : c.getDeclaredMethods()) CHECKS.holds("rule 11: " + m, m.getParameterCount() <= 7);
    for (Method m : c.getDeclaredMethods())
      if (Modifier.isPrivate(m.getModifiers()))
        CHECKS.holds("rule 1: private " + m, FACE.stream().noneMatch(f -> f.startsWith(m.getName() + "/")));
  }

  private static void words() throws Exception {
    String file = Files.readString(Path.of("src/main/java/TrayTurns.java"));
    String code = file.replaceAll("(?s)/\\*.*?\\*/", "").replaceAll("//[^\n]*", "");
    for (String word : List.of("throw", "throws", "try", "catch", "finally", "synchronized", "assert", "package", "volatile",
        "transient", "native", "var", "Object", "Random", "Thread", "equals", "hashCode", "toString"))
      CHECKS.holds("rules 1, 3, 4, 6: the word " + word, !Pattern.compile("\\b" + word + "\\b").matcher(code).find());
    for (String sign : List.of("->", "::", "static {", "@", "\\u", "nanoTime", "currentTimeMillis", "Exact("))
      CHECKS.holds("rules 2, 4, 5, 13: the sign " + sign, !code.contains(sign));
    for (String line : code.split("\n"))
      if (line.startsWith("import")) CHECKS.holds("rule 4: " + line, line.equals("import java.util.Arrays;"));
    CHECKS.holds("rule 3: signs 1 to 127", file.chars().allMatch(c -> c >= 1 && c <= 127));
    methodsAreShort(code);
    callsAreFlat(code);
    callsMakeNothing(code);
  }

  private static final Pattern HEAD = Pattern.compile("(?m)^(?: {4}| {8})(?:[\\w\\[\\]]+ )+(\\w+)\\([^;=\\n]*\\) \\{$");
  private static final Pattern CALL = Pattern.compile("(\\w+)\\(");

  /** Rule 11: eight deep at most, the library's own counted; a KIND's call of what is above it is not followed. */
  private static void callsAreFlat(String code) {
    Map<String, Set<String>> calls = new TreeMap<>();
    Matcher head = HEAD.matcher(code);
    boolean more = head.find();
    while (more) {
      String name = head.group(1);
      int from = head.end();
      more = head.find();
      Set<String> called = calls.computeIfAbsent(name, n -> new TreeSet<>());
      Matcher call = CALL.matcher(code.substring(from, more ? head.start() : code.length()));
      while (call.find()) if (!call.group(1).equals(name)) called.add(call.group(1));
    }
    for (String f : FACE) {
      String name = f.substring(0, f.indexOf('/'));
      CHECKS.holds("rule 11: " + name + " was not found", calls.containsKey(name));
      int deep = depth(calls, name, 0);
      CHECKS.holds("rule 11: " + name + " goes " + deep + " deep", deep <= 8);
    }
  }

  private static int depth(Map<String, Set<String>> calls, String name, int above) {
    int most = above + 1;
    if (above > 20) return most;
    for (String c : calls.getOrDefault(name, Set.of())) most = Math.max(most, depth(calls, c, above + 1));
    return most;
  }

  /** Rule 12: rows are made with the object alone, so that no run of calls can fill the room. */
  private static void callsMakeNothing(String code) {
    Matcher head = HEAD.matcher(code);
    boolean more = head.find();
    while (more) {
      String name = head.group(1);
      int from = head.end();
      more = head.find();
      String indent = code.substring(code.lastIndexOf('\n', from - 1) + 1, from).replaceAll("[^ ].*", "");
      String body = code.substring(from, code.indexOf("\n" + indent + "}", from));
      boolean makes = Pattern.compile("\\bnew\\b|\\bclone\\(|\\bcopyOf").matcher(body).find();
      CHECKS.holds("rule 12: " + name + " makes an object", !makes || name.equals("TrayTurns"));
    }
  }

  /** What one object takes at first, and that it is the same, object by object, behind calls of every sort. */
  private static void room() throws Exception {
    TrayTurns x = new TrayTurns();
    Map<Object, Boolean> before = new IdentityHashMap<>();
    long fields = held(x, before);
    CHECKS.holds("the room: " + before.size() + " objects", before.size() <= 200);
    CHECKS.holds("the room: " + fields + " fields and elements", fields <= 2000);
    // thrice stays below the 512 calls of an object
    for (int i = 0; i < 3; i++) {
      Checks.busy(x);
      Watch.answers(x);
      x.steps(0, 0, 1);
      x.puts(0);
      x.fed(0);
      x.odds(5, 0, 0);
      x.undo();
      x.back(0);
      x.forget();
      x.clear();
    }
    Map<Object, Boolean> behind = new IdentityHashMap<>();
    CHECKS.due("the room: fields and elements behind calls", held(x, behind), fields);
    CHECKS.holds("the room: other objects behind calls", before.keySet().equals(behind.keySet()));
  }

  /** Adds all objects and arrays that this one holds, and itself: how many fields and elements they have. */
  private static long held(Object one, Map<Object, Boolean> all) throws Exception {
    if (one == null || all.put(one, true) != null) return 0;
    long many = 0;
    if (one.getClass().isArray()) {
      many = Array.getLength(one);
      if (one instanceof Object[] row) for (Object o : row) many += held(o, all);
      return many;
    }
    for (Class<?> c = one.getClass(); c != Object.class; c = c.getSuperclass())
      for (Field f : c.getDeclaredFields())
        if (!Modifier.isStatic(f.getModifiers())) {
          f.setAccessible(true);
          many += 1 + (f.getType().isPrimitive() ? 0 : held(f.get(one), all));
        }
    return many;
  }

  private static void methodsAreShort(String code) {
    int from = -1;
    String[] lines = code.split("\n");
    for (int i = 0; i < lines.length; i++) {
      if (lines[i].matches(" +[^ ].*\\) \\{") && lines[i].matches(" {4}[^ ].*| {8}[^ ].*") && !lines[i].matches(" +(if|for|while|switch|}).*")) from = i;
      if (lines[i].matches(" {4}}| {8}}") && from >= 0) {
        CHECKS.holds("rule 11: the method of line " + (from + 1), i - from <= 60);
      }
    }
    CHECKS.holds("rule 11: no method was found", from >= 0);
  }
}
