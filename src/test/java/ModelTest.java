import java.util.ArrayList;
import java.util.List;
import java.util.Random;

/** Random runs (of fixed seeds) on a SpouseTalk and on the Model: both must answer alike. */
public final class ModelTest {
  private static final String[] NAMES = {"a", "b", "c", "d", "e", "f", "g", "h", "tom", "longname"};
  private final Random dice;
  private final SpouseTalk x = new SpouseTalk();
  private final Model m = new Model();
  private final StringBuilder log = new StringBuilder();
  private boolean wrong = false;

  private ModelTest(long seed) {
    dice = new Random(seed);
  }

  private int any(int n) {
    return dice.nextInt(n);
  }

  private String one(String... of) {
    return of[any(of.length)];
  }

  // ---- random texts

  private String unit(int deep) {
    if (deep > 0 && any(4) == 0) return "( " + sum(deep - 1) + " )";
    if (any(2) == 0) return Integer.toString(any(5) == 0 ? any(10000) : any(10));
    return one("word", "place", "mood", "tired", "love", "which", "week", "price", "fines");
  }

  private String product(int deep) {
    StringBuilder s = new StringBuilder(unit(deep));
    while (any(3) == 0) s.append(' ').append(one("*", "/")).append(' ').append(unit(deep));
    return s.toString();
  }

  private String sum(int deep) {
    StringBuilder s = new StringBuilder(product(deep));
    while (any(2) == 0) s.append(' ').append(one("+", "-")).append(' ').append(product(deep));
    return s.toString();
  }

  private String law() {
    StringBuilder s = new StringBuilder("= ");
    int deep = any(5) == 0 ? any(9) : any(3);
    int ifs = any(3) == 0 ? any(6) : any(2);
    for (int i = 0; i < ifs; i++) s.append("if " + sum(deep) + " < " + sum(deep) + " then " + sum(deep) + " else ");
    return s + sum(deep);
  }

  private String usefulLaw(String law) {
    return switch (law) {
      case "length" -> one("5", "3 + which", "mood / 9", "week + 1", "4 - week / 4");
      case "says" -> one("place * 3 + mood", "mood - which", "7 - place", "which + week + place", "place - 2");
      case "bends" -> one("word + which", "word - place", "if love < 5 then word else word + love", "word + tired / 9", "if place < 1 then word else 8", "word * ( which + 1 )", "word + price / 3", "word + 1000 * which");
      case "drops" -> one("10", "tired", "love * 9", "50", "100 - tired", "which * 30");
      case "takes" -> one("word - 3", "if mood < 50 then word - 4 else 3 - word", "place - 1", "word - which", "3 - word", "0 - 2 * word");
      case "loves" -> one("mood / 25", "1", "9 - tired / 9", "which + 1", "love - 1");
      default -> one("love - 3", "2 - fines", "tired - 20", "which", "1 - which", "week - 5");
    };
  }

  private String goodText() {
    StringBuilder s = new StringBuilder();
    int spouses = any(8) == 0 ? any(8) : 2 * (1 + any(3));
    for (int i = 0; i < spouses; i++) s.append("spouse " + NAMES[i] + " " + (any(3) == 0 ? any(12) : any(100)) + "; ");
    int couples = Math.min(3, spouses / 2);
    if (any(4) == 0) couples = any(4);
    for (int i = 0; i < couples; i++) s.append("couple " + NAMES[2 * i] + " " + NAMES[2 * i + 1] + "; ");
    int thirds = any(6) == 0 ? any(6) : 1 + any(4);
    for (int i = 0; i < thirds; i++) s.append("third x" + "yzuvw".charAt(i) + " " + any(10) + " " + any(100) + ";\n");
    for (String law : Model.LAWS) {
      int kind = any(8);
      if (kind < 5) s.append(law + " = " + usefulLaw(law) + "; ");
      else if (kind < 6) s.append(law + law() + "; ");
    }
    if (any(3) > 0) s.append("fine " + any(30) + "; ");
    if (any(3) > 0) s.append("seed " + (any(4) == 0 ? 9980 + any(20) : any(100)) + "; ");
    return s.toString();
  }

  private String tell() {
    String name = NAMES[any(NAMES.length)];
    return switch (any(6)) {
      case 0 -> "spouse " + name + " " + any(110) + ";";
      case 1 -> "couple " + name + " " + NAMES[any(NAMES.length)] + ";";
      case 2 -> "third " + name + " " + any(11) + " " + any(110) + ";";
      case 3 -> one("fine ", "seed ") + any(120) + ";";
      case 4 -> one("length", "says", "bends", "drops", "takes", "loves", "dares") + law() + ";";
      default -> "";
    };
  }

  private String looseText() {
    StringBuilder s = new StringBuilder();
    int n = any(12);
    for (int i = 0; i < n; i++) s.append(tell()).append(one("", " ", "\n", "\t", "\r"));
    return s.toString();
  }

  private String spoilt(String text) {
    StringBuilder s = new StringBuilder(text);
    int n = 1 + any(3);
    for (int i = 0; i < n; i++) {
      int at = any(s.length() + 1);
      switch (any(4)) {
        case 0 -> s.insert(at, one(";", "(", ")", "=", "if ", " spouse ", "99999", "abcdefghi", ".", "A", "" + (char) 200, "then ", " else ", "< ", " 7 ", " week ", "" + (char) 0));
        case 1 -> s.delete(at, Math.min(s.length(), at + 1 + any(4)));
        case 2 -> s.setLength(at);
        default -> { if (at < s.length()) s.setCharAt(at, (char) any(256)); }
      }
    }
    return s.toString();
  }

  private String longText() {
    StringBuilder s = new StringBuilder(one("", "spouse a 5;", "fine 3;"));
    s.append("says=");
    int n = 190 + any(14);
    s.append(one("1", "(1)", "((1))"));
    for (int i = 0; i < n; i++) s.append(one("+1", "*2", "-9"));
    s.append(one(";", "", ";;", ";seed 1;", ")", "; fine", ";fine 1"));
    return s.toString();
  }

  private String text() {
    String s = switch (any(6)) {
      case 0 -> looseText();
      case 1 -> spoilt(looseText());
      case 2 -> any(4) == 0 ? longText() : spoilt(goodText());
      default -> goodText();
    };
    return s.length() > 2000 ? s.substring(0, 2000) : s;
  }

  // ---- random calls

  private void same(String call, int got, int want) {
    log.append(call).append(" = ").append(got).append('\n');
    if (got != want && !wrong) {
      wrong = true;
      System.out.println(log.length() > 6000 ? log.substring(log.length() - 6000) : log);
      System.out.println(call + " answered " + got + ", the model " + want);
    }
  }

  private void same(String call, boolean got, boolean want) {
    same(call, got ? 1 : 0, want ? 1 : 0);
  }

  private int readAny() {
    String s = text();
    Tape.feed(x, s);
    int size = (s.length() + 19) / 20 * 20;
    StringBuilder padded = new StringBuilder(s);
    while (padded.length() < size) padded.append(' ');
    for (int i = 0; i < size; i += 20) {
      int[] ints = new int[5];
      for (int j = 0; j < 20; j++) ints[j / 4] = ints[j / 4] << 8 | padded.charAt(i + j) & 255;
      m.feed(ints);
    }
    m.back(size - s.length());
    log.append('[').append(s).append("]\n");
    same("count(8)", x.count(8), m.count(8));
    int got = x.read();
    same("read()", got, m.read());
    same("place()", x.place(), m.faultPlace);
    return got;
  }

  private int aRow() {
    int size = any(6);
    int row = 1 << 3 * size;
    row += any(row);
    return any(12) == 0 ? any(70000) - 10 : row;
  }

  private int near(int n) {
    return any(12) == 0 ? any(n + 3) - 2 : any(n);
  }

  private void call() {
    int a = near(4);
    int b = near(4);
    int row = aRow();
    int n = any(10) == 0 ? any(70) - 4 : any(8);
    int spouse = near(6);
    int couple = near(3);
    switch (any(34)) {
      case 0 -> { int w = near(4); same("spouse(" + spouse + "," + w + ")", x.spouse(spouse, w), m.spouse(spouse, w)); }
      case 1 -> { int w = near(6); same("couple(" + couple + "," + w + ")", x.couple(couple, w), m.couple(couple, w)); }
      case 2 -> { int w = near(8); same("third(" + a + "," + w + ")", x.third(a, w), m.third(a, w)); }
      case 3, 4, 5 -> { int t = any(5) - 1; same("hire(" + couple + "," + t + ")", x.hire(couple, t), m.hire(couple, t)); }
      case 6 -> { boolean s = any(3) > 0; same("swear(" + a + "," + s + ")", x.swear(a, s), m.swear(a, s)); }
      case 7, 8, 9 -> same("weeks(" + n + ")", x.weeks(n), m.weeks(n));
      case 10 -> same("undo()", x.undo(), m.undo());
      case 11 -> { int w = near(8); int at = near(5); same("bends(" + a + "," + w + "," + at + ")", x.bends(a, w, at), m.bends(a, w, at)); }
      case 12 -> same("heard(" + a + "," + row + ")", x.heard(a, row), m.heard(a, row));
      case 13 -> same("chain(" + a + "," + b + "," + row + ")", x.chain(a, b, row), m.chain(a, b, row));
      case 14 -> same("say(" + a + "," + row + ")", x.say(a, row), m.say(a, row));
      case 15 -> same("loses(" + a + "," + b + "," + row + ")", x.loses(a, b, row), m.loses(a, b, row));
      case 16 -> same("least(" + row + ")", x.least(row), m.least(row));
      case 17 -> same("truest(" + row + ")", x.truest(row), m.truest(row));
      case 18 -> { int at = near(5); same("crooked(" + a + "," + at + ")", x.crooked(a, at), m.crooked(a, at)); }
      case 19 -> { int other = aRow(); same("altered(" + row + "," + other + ")", x.altered(row, other), m.altered(row, other)); }
      case 20 -> same("takes(" + spouse + "," + row + ")", x.takes(spouse, row), m.takes(spouse, row));
      case 21 -> { int c = any(5) - 1; same("hires(" + c + ")", x.hires(c), m.hires(c)); }
      case 22 -> same("then(" + spouse + "," + n + ")", x.then(spouse, n), m.then(spouse, n));
      case 23 -> { int w = near(3); same("paid(" + a + "," + n + "," + w + ")", x.paid(a, n, w), m.paid(a, n, w)); }
      case 24 -> same("parts(" + couple + ")", x.parts(couple), m.parts(couple));
      case 25 -> { int i = any(4) - 1; int k = any(10) == 0 ? any(28) : 1 + any(3); same("oaths(" + k + "," + i + ")", x.oaths(k, i), m.oaths(k, i)); }
      case 26 -> { int s = any(23); int k = 5 * n; same("year(" + couple + "," + k + "," + s + ")", x.year(couple, k, s), m.year(couple, k, s)); }
      case 27 -> tellAny(row);
      case 28 -> { if (any(6) == 0) same("forget()", x.forget(), m.forget()); }
      case 29 -> { int k = any(1 + Math.max(1, m.told.size())) - any(2); same("who(" + k + ")", x.who(k), m.who(k)); }
      case 30 -> { int k = any(3) == 0 ? any(22) - 1 : any(2); same("ask(" + k + ")", x.ask(k), m.ask(k)); }
      case 31 -> { int s = near(3); same("hold(" + s + ")", x.hold(s), m.hold(s)); }
      case 32 -> { int s = near(3); if (any(3) == 0) same("restore(" + s + ")", x.restore(s), m.restore(s)); }
      default -> { if (any(20) == 0) readAny(); }
    }
  }

  private void tellAny(int row) {
    int word = near(8);
    int as = any(8) == 0 ? row : any(4) == 0 ? 1 : 8 + any(8);
    if (any(2) == 0 && m.w.thirds.size() > 0 && word >= 0 && word < 8) as = m.heard(any(m.w.thirds.size()), 8 + word);
    same("tell(" + word + "," + as + ")", x.tell(word, as), m.tell(word, as));
  }

  private void sameAll() {
    for (int what = -1; what < 15; what++) same("count(" + what + ")", x.count(what), m.count(what));
    for (int i = 0; i < 6; i++) for (int what = 0; what < 4; what++) same("spouse(" + i + "," + what + ")", x.spouse(i, what), m.spouse(i, what));
    for (int i = 0; i < 3; i++) for (int what = 0; what < 6; what++) same("couple(" + i + "," + what + ")", x.couple(i, what), m.couple(i, what));
    for (int i = 0; i < 4; i++) for (int what = 0; what < 8; what++) same("third(" + i + "," + what + ")", x.third(i, what), m.third(i, what));
  }

  private void run() {
    for (int i = 0; i < 6 && readAny() != 0; i++) log.append("again\n");
    for (int t = 0; t < 3; t++) if (any(3) > 0) { int h = any(4); same("hire(" + t + "," + h + ")", x.hire(t, h), m.hire(t, h)); }
    for (int i = 0; i < 150 && !wrong; i++) call();
    sameAll();
  }

  public static void main(String[] args) {
    int first = args.length > 0 ? Integer.parseInt(args[0]) : 0;
    int runs = args.length > 1 ? Integer.parseInt(args[1]) : 1500;
    List<Integer> bad = new ArrayList<>();
    for (int seed = first; seed < first + runs && bad.size() < 3; seed++) {
      ModelTest test = new ModelTest(seed);
      test.run();
      if (test.wrong) bad.add(seed);
    }
    System.out.println(runs + " runs, not alike: " + bad);
    if (!bad.isEmpty()) System.exit(1);
  }
}
