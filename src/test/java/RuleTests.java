import java.lang.reflect.Constructor;
import java.lang.reflect.Field;
import java.lang.reflect.Method;
import java.lang.reflect.Modifier;
import java.nio.file.Files;
import java.nio.file.Path;
import java.util.Arrays;
import java.util.List;
import java.util.Map;
import java.util.Set;
import java.util.TreeMap;
import java.util.TreeSet;
import java.util.regex.Matcher;
import java.util.regex.Pattern;

/** The rules of LANGUAGE.md that can be seen from the file and the compiled class. */
public final class RuleTests {
  private static final Checks CHECKS = new Checks();

  private static final List<String> FACE = List.of("type/1", "clear/0", "table/0", "guest/2", "dish/2", "now/1",
      "spins/2", "takes/2", "moves/2", "changes/2", "undo/0", "steps/3", "puts/1", "fed/1", "odds/3", "sees/3",
      "forget/0", "who/0", "look/1", "rate/2", "keep/1", "back/1", "count/1", "trace/0");

  public static void main(String[] args) throws Exception {
    face();
    classesInside();
    words();
    CHECKS.end("RuleTests");
  }

  private static void face() {
    CHECKS.holds("rule 1: final", Modifier.isFinal(TrayTurns.class.getModifiers()));
    Set<String> open = new TreeSet<>();
    for (Method m : TrayTurns.class.getDeclaredMethods()) {
      boolean isPublic = Modifier.isPublic(m.getModifiers());
      CHECKS.holds("rule 1: " + m + " is neither public nor private", isPublic || Modifier.isPrivate(m.getModifiers()));
      if (isPublic) {
        open.add(m.getName() + "/" + m.getParameterCount());
        CHECKS.holds("rule 1: answer of " + m, m.getReturnType() == (m.getName().equals("trace") ? long.class : int.class));
        CHECKS.holds("rule 1: " + m + " is static", !Modifier.isStatic(m.getModifiers()));
      }
    }
    CHECKS.holds("rule 1: the face is " + open, open.equals(new TreeSet<>(FACE)));
    Set<String> constants = new TreeSet<>();
    for (Field f : TrayTurns.class.getDeclaredFields()) {
      if (Modifier.isPublic(f.getModifiers())) constants.add(f.getName());
      else CHECKS.holds("rule 1: " + f, Modifier.isPrivate(f.getModifiers()));
    }
    CHECKS.holds("rule 1: constants " + constants, constants.equals(new TreeSet<>(List.of("BAD", "STATE", "FULL", "NONE", "NO"))));
    Constructor<?>[] made = TrayTurns.class.getDeclaredConstructors();
    CHECKS.holds("rule 1: one constructor", made.length == 1 && Modifier.isPublic(made[0].getModifiers()) && made[0].getParameterCount() == 0);
  }

  private static void classesInside() {
    Class<?>[] inside = TrayTurns.class.getDeclaredClasses();
    CHECKS.holds("rule 11: " + inside.length + " classes inside", inside.length <= 12);
    for (Class<?> c : inside) {
      CHECKS.holds("rule 2: " + c + " is not static", Modifier.isStatic(c.getModifiers()));
      CHECKS.holds("rule 2: " + c + " holds classes", c.getDeclaredClasses().length == 0);
      checkMembers(c);
      for (Method m : c.getDeclaredMethods())
        CHECKS.holds("rule 1: " + m + " bears a public name", FACE.stream().noneMatch(f -> f.startsWith(m.getName() + "/")));
    }
    checkMembers(TrayTurns.class);
  }

  private static void checkMembers(Class<?> c) {
    long fields = Arrays.stream(c.getDeclaredFields()).filter(f -> !Modifier.isStatic(f.getModifiers())).count();
    CHECKS.holds("rule 11: " + c + " has " + fields + " fields", fields <= 20);
    for (Field f : c.getDeclaredFields())
      CHECKS.holds("rule 5: " + f, !Modifier.isStatic(f.getModifiers()) || Modifier.isFinal(f.getModifiers()));
    for (Method m : c.getDeclaredMethods()) CHECKS.holds("rule 11: " + m, m.getParameterCount() <= 7);
    for (Method m : c.getDeclaredMethods())
      if (Modifier.isPrivate(m.getModifiers()))
        CHECKS.holds("rule 1: private " + m, FACE.stream().noneMatch(f -> f.startsWith(m.getName() + "/")));
  }

  private static void words() throws Exception {
    String file = Files.readString(Path.of("src/main/java/TrayTurns.java"));
    String code = file.replaceAll("(?s)/\\*.*?\\*/", "").replaceAll("//[^\n]*", "");
    for (String word : List.of("throw", "throws", "try", "catch", "finally", "synchronized", "assert", "package", "volatile",
        "transient", "native", "var", "Object", "Random", "Thread", "equals", "hashCode", "toString"))
      CHECKS.holds("rules 1, 3, 4, 6: the word " + word, !Pattern.compile("\\b" + word + "\\b").matcher(code).find());
    for (String sign : List.of("->", "::", "static {", "@", "\\u", "nanoTime", "currentTimeMillis", "Exact("))
      CHECKS.holds("rules 2, 4, 5, 13: the sign " + sign, !code.contains(sign));
    for (String line : code.split("\n"))
      if (line.startsWith("import")) CHECKS.holds("rule 4: " + line, line.equals("import java.util.Arrays;"));
    CHECKS.holds("rule 3: signs 1 to 127", file.chars().allMatch(c -> c >= 1 && c <= 127));
    methodsAreShort(code);
    callsAreFlat(code);
  }

  private static final Pattern HEAD = Pattern.compile("(?m)^(?: {4}| {8})(?:[\\w\\[\\]]+ )+(\\w+)\\([^;=\\n]*\\) \\{$");
  private static final Pattern CALL = Pattern.compile("(\\w+)\\(");

  /** Rule 11: eight deep at most, the library's own counted; a KIND's call of what is above it is not followed. */
  private static void callsAreFlat(String code) {
    Map<String, Set<String>> calls = new TreeMap<>();
    Matcher head = HEAD.matcher(code);
    boolean more = head.find();
    while (more) {
      String name = head.group(1);
      int from = head.end();
      more = head.find();
      Set<String> called = calls.computeIfAbsent(name, n -> new TreeSet<>());
      Matcher call = CALL.matcher(code.substring(from, more ? head.start() : code.length()));
      while (call.find()) if (!call.group(1).equals(name)) called.add(call.group(1));
    }
    for (String f : FACE) {
      String name = f.substring(0, f.indexOf('/'));
      CHECKS.holds("rule 11: " + name + " was not found", calls.containsKey(name));
      int deep = depth(calls, name, 0);
      CHECKS.holds("rule 11: " + name + " goes " + deep + " deep", deep <= 8);
    }
  }

  private static int depth(Map<String, Set<String>> calls, String name, int above) {
    int most = above + 1;
    if (above > 20) return most;
    for (String c : calls.getOrDefault(name, Set.of())) most = Math.max(most, depth(calls, c, above + 1));
    return most;
  }

  private static void methodsAreShort(String code) {
    int from = -1;
    String[] lines = code.split("\n");
    for (int i = 0; i < lines.length; i++) {
      if (lines[i].matches(" +[^ ].*\\) \\{") && lines[i].matches(" {4}[^ ].*| {8}[^ ].*") && !lines[i].matches(" +(if|for|while|switch|}).*")) from = i;
      if (lines[i].matches(" {4}}| {8}}") && from >= 0) {
        CHECKS.holds("rule 11: the method of line " + (from + 1), i - from <= 60);
      }
    }
    CHECKS.holds("rule 11: no method was found", from >= 0);
  }
}
