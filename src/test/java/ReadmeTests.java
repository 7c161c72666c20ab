import java.lang.reflect.Method;
import java.lang.reflect.Modifier;
import java.nio.file.Files;
import java.nio.file.Path;
import java.util.regex.Matcher;
import java.util.regex.Pattern;

/** README.md's example answers what it says behind each call, and README.md tells of every call. */
public final class ReadmeTests {
  private static final Checks CHECKS = new Checks();
  private static final Pattern TEXT = Pattern.compile("(?m)^String text = \"([^\"]*)\";$");
  private static final Pattern LINE = Pattern.compile("(?m)^tray\\.(\\w+)\\(([-\\d, ]*)\\);(?: +// (-?\\d+)\\b.*)?$");

  public static void main(String[] args) throws Exception {
    String readme = Files.readString(Path.of("README.md"));
    example(readme.substring(readme.indexOf("```java"), readme.lastIndexOf("```")));
    everyCall(readme.substring(readme.indexOf("### The calls")));
    CHECKS.end("ReadmeTests");
  }

  private static void example(String code) throws Exception {
    Matcher text = TEXT.matcher(code);
    CHECKS.holds("the example has a text", text.find());
    TrayTurns tray = new TrayTurns();
    Checks.type(tray, text.group(1));
    int calls = 0;
    Matcher line = LINE.matcher(code);
    while (line.find()) {
      calls++;
      CHECKS.holds(line.group() + " tells no answer", line.group(3) != null);
      if (line.group(3) != null)
        CHECKS.due(line.group(), answer(tray, line.group(1), line.group(2)), Long.parseLong(line.group(3)));
    }
    CHECKS.due("calls of the example that were tried", calls, code.lines().filter(l -> l.startsWith("tray.")).count());
  }

  private static long answer(TrayTurns tray, String name, String numbers) throws Exception {
    String[] told = numbers.isBlank() ? new String[0] : numbers.split(", *");
    Object[] given = new Object[told.length];
    Class<?>[] sorts = new Class<?>[told.length];
    for (int i = 0; i < told.length; i++) {
      given[i] = Integer.parseInt(told[i]);
      sorts[i] = int.class;
    }
    return ((Number) TrayTurns.class.getMethod(name, sorts).invoke(tray, given)).longValue();
  }

  private static void everyCall(String calls) {
    for (Method m : TrayTurns.class.getDeclaredMethods())
      if (Modifier.isPublic(m.getModifiers())) {
        String numbers = m.getParameterCount() == 0 ? "" : "\\w+(, \\w+){" + (m.getParameterCount() - 1) + "}";
        CHECKS.holds("README.md does not tell of " + m, Pattern.compile("`" + m.getName() + "\\(" + numbers + "\\)`").matcher(calls).find());
      }
  }
}
