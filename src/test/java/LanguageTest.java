import java.io.IOException;
import java.lang.reflect.Field;
import java.lang.reflect.Method;
import java.lang.reflect.Modifier;
import java.nio.file.Files;
import java.nio.file.Path;
import java.util.ArrayList;
import java.util.Arrays;
import java.util.HashSet;
import java.util.List;
import java.util.Set;
import java.util.TreeSet;
import java.util.regex.Matcher;
import java.util.regex.Pattern;

/** What of LANGUAGE.md and of the document's face can be seen from the source and the classes. */
public final class LanguageTest {
  private static final Tape T = new Tape();
  private static final String SOURCE = "src/main/java/SpouseTalk.java";

  private static final String[] FACE = {
    "int feed(int,int,int,int,int)", "int back(int)", "int read()", "int place()", "int spouse(int,int)",
    "int couple(int,int)", "int third(int,int)", "boolean hire(int,int)", "boolean swear(int,boolean)",
    "int weeks(int)", "boolean undo()", "int bends(int,int,int)", "int heard(int,int)", "int chain(int,int,int)",
    "int say(int,int)", "int loses(int,int,int)", "int least(int)", "int truest(int)", "int crooked(int,int)",
    "int altered(int,int)", "int takes(int,int)", "int hires(int)", "int then(int,int)", "int paid(int,int,int)",
    "int parts(int)", "int oaths(int,int)", "int year(int,int,int)", "int tell(int,int)", "int forget()",
    "int who(int)", "int ask(int)", "boolean hold(int)", "boolean restore(int)", "int count(int)"};

  private static String told(Method m) {
    StringBuilder s = new StringBuilder(m.getReturnType() + " " + m.getName() + "(");
    for (Class<?> p : m.getParameterTypes()) s.append(s.charAt(s.length() - 1) == '(' ? "" : ",").append(p);
    return s + ")";
  }

  private static void face() {
    Class<?> c = SpouseTalk.class;
    Set<String> seen = new TreeSet<>();
    for (Method m : c.getDeclaredMethods()) {
      if (Modifier.isPrivate(m.getModifiers()) || m.isSynthetic()) continue;
      T.due("public: " + m, Modifier.isPublic(m.getModifiers()), true);
      seen.add(told(m));
    }
    T.due("the face is " + seen, seen.equals(new TreeSet<>(Arrays.asList(FACE))), true);
    T.due("one constructor", c.getDeclaredConstructors().length, 1);
    T.due("final", Modifier.isFinal(c.getModifiers()), true);
    for (Field f : c.getDeclaredFields()) {
      if (!Modifier.isPrivate(f.getModifiers())) T.due("field " + f, f.getName().equals("NONE"), true);
    }
  }

  private static void classes() {
    List<Class<?>> all = new ArrayList<>(List.of(SpouseTalk.class.getDeclaredClasses()));
    for (Class<?> c : all) T.due("static " + c, Modifier.isStatic(c.getModifiers()), true);
    all.add(SpouseTalk.class);
    T.due("at most twelve classes", all.size() <= 12, true);
    Set<String> names = new HashSet<>();
    for (String f : FACE) names.add(f.substring(f.indexOf(' ') + 1, f.indexOf('(')));
    for (Class<?> c : all) {
      int fields = 0;
      for (Field f : c.getDeclaredFields()) {
        boolean constant = Modifier.isStatic(f.getModifiers());
        if (constant) T.due("final " + f, Modifier.isFinal(f.getModifiers()), true);
        else fields++;
      }
      T.due("fields of " + c, fields <= 20, true);
      for (Method m : c.getDeclaredMethods()) {
        T.due("parameters of " + m, m.getParameterCount() <= 7, true);
        if (!Modifier.isPublic(m.getModifiers())) T.due("name of " + m, names.contains(m.getName()), false);
      }
    }
  }

  private static String bare(String source) {
    return source.replaceAll("(?s)/\\*.*?\\*/", "").replaceAll("//[^\n]*", "").replaceAll("\"[^\"\n]*\"", "\"\"");
  }

  private static void source() throws IOException {
    String whole = Files.readString(Path.of(SOURCE));
    String code = bare(whole);
    String[] ruledOut = {"\\bthrows?\\b", "\\btry\\b", "\\bcatch\\b", "\\bsynchronized\\b", "\\bassert\\b", "->", "::",
      "\\bimport\\b", "\\bpackage\\b", "\\bprotected\\b", "Exact\\b", "\\bvar\\b", "\\bfloat\\b", "\\bdouble\\b", "\\bstatic\\s*\\{",
      "\\bhashCode\\b", "\\btoString\\b", "\"\"\\s*\\+", "\\+\\s*\"\"", "\\bwhile\\s*\\(true\\)", "Integer\\.", "\\bnull\\b"};
    for (String pattern : ruledOut) {
      Matcher m = Pattern.compile(pattern).matcher(code);
      T.due("ruled out: " + pattern, m.find(), false);
    }
    for (int i = 0; i < whole.length(); i++) T.due("sign " + i, whole.charAt(i) < 128, true);
    methodsAreShort(whole);
  }

  private static void methodsAreShort(String whole) {
    String[] lines = whole.split("\n");
    int from = -1;
    for (int i = 0; i < lines.length; i++) {
      if (lines[i].matches("( {4}| {8})[a-z].*\\) \\{")) from = i;
      if (lines[i].matches(" {4}\\}| {8}\\}") && from >= 0) {
        T.due("lines from " + (from + 1) + " on", i - from + 1 <= 60, true);
        from = -1;
      }
    }
  }

  public static void main(String[] args) throws IOException {
    face();
    classes();
    source();
    T.end();
  }
}
