import java.io.IOException;
import java.lang.reflect.Method;
import java.lang.reflect.Modifier;
import java.nio.file.DirectoryStream;
import java.nio.file.Files;
import java.nio.file.Path;
import java.util.HashMap;
import java.util.Map;
import java.util.regex.Matcher;
import java.util.regex.Pattern;

/** What README.md shows: its example is gone through row by row, its table has every call, its list every test. */
public final class ReadmeTest {
  private static final Tape T = new Tape();
  private static final Pattern FED = Pattern.compile("feed\\(x, \"([^\"]*)\"\\);");
  private static final Pattern ASKED = Pattern.compile("x\\.(\\w+)\\(([^)]*)\\); +// (-?\\d+|true|false): .*");

  private static void example(String page, Map<String, Method> calls) throws ReflectiveOperationException {
    SpouseTalk x = new SpouseTalk();
    int from = page.indexOf("SpouseTalk x = new SpouseTalk();");
    T.due("an example", from >= 0, true);
    String[] lines = page.substring(from, page.indexOf("```", from)).split("\n");
    for (int i = 1; i < lines.length; i++) {
      Matcher fed = FED.matcher(lines[i]);
      Matcher asked = ASKED.matcher(lines[i]);
      if (fed.matches()) {
        Tape.feed(x, fed.group(1));
      } else if (asked.matches()) {
        T.same(lines[i], told(x, calls.get(asked.group(1)), asked.group(2)), asked.group(3));
      } else {
        T.due("no row of the example: " + lines[i], true, false);
      }
    }
  }

  private static String told(SpouseTalk x, Method call, String told) throws ReflectiveOperationException {
    String[] parts = told.isEmpty() ? new String[0] : told.split(", ");
    Object[] args = new Object[parts.length];
    for (int i = 0; i < parts.length; i++) args[i] = Integer.valueOf(parts[i]);
    return String.valueOf(call.invoke(x, args));
  }

  private static void table(String page, Map<String, Method> calls) {
    for (String name : calls.keySet()) {
      T.due("the table has " + name, Pattern.compile("(?m)^\\|.*`" + name + "`.*\\|$").matcher(page).find(), true);
    }
  }

  private static void tests(String page) throws IOException {
    try (DirectoryStream<Path> files = Files.newDirectoryStream(Path.of("src/test/java"), "*.java")) {
      for (Path file : files) {
        String name = file.getFileName().toString().replace(".java", "");
        T.due("the page has " + name, page.contains("`" + name + "`"), true);
      }
    }
    Matcher named = Pattern.compile("`(\\w+Test)`").matcher(page);
    while (named.find()) {
      T.due("there is " + named.group(1), Files.exists(Path.of("src/test/java/" + named.group(1) + ".java")), true);
    }
  }

  public static void main(String[] args) throws IOException, ReflectiveOperationException {
    String page = Files.readString(Path.of("README.md"));
    Map<String, Method> calls = new HashMap<>();
    for (Method m : SpouseTalk.class.getDeclaredMethods()) {
      if (Modifier.isPublic(m.getModifiers())) calls.put(m.getName(), m);
    }
    example(page, calls);
    table(page, calls);
    tests(page);
    T.end();
  }
}
