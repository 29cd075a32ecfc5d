import java.util.ArrayDeque;
import java.util.ArrayList;
import java.util.Arrays;
import java.util.HashMap;
import java.util.HashSet;
import java.util.LinkedHashMap;
import java.util.List;
import java.util.Map;
import java.util.Set;
import java.util.TreeMap;

/**
 * The document once more, written in the slowest and most literal way, to be compared with
 * SpouseTalk: rows are lists, laws are trees, faults are gathered and sorted, rows are tried out.
 */
final class Model {
  // ---- the text

  record Token(String kind, String text, int place) {}

  static final List<String> LAWS = List.of("length", "says", "bends", "drops", "takes", "loves", "dares");
  static final List<String> VARS = List.of("word", "place", "mood", "tired", "love", "which", "week", "price", "fines");
  static final Set<String> QUOTED = new HashSet<>();
  static {
    QUOTED.addAll(LAWS);
    QUOTED.addAll(VARS);
    QUOTED.addAll(List.of("spouse", "couple", "third", "fine", "seed", "if", "then", "else"));
  }

  static List<Token> tokens(String text) {
    List<Token> all = new ArrayList<>();
    int at = 0;
    while (at < text.length()) {
      char c = text.charAt(at);
      int end = at + 1;
      if (" \t\n\r".indexOf(c) >= 0) {
        at++;
        continue;
      }
      String letters = "abcdefghijklmnopqrstuvwxyz";
      String digits = "0123456789";
      String run = letters.indexOf(c) >= 0 ? letters : digits.indexOf(c) >= 0 ? digits : "";
      while (end < text.length() && run.indexOf(text.charAt(end)) >= 0) end++;
      String s = text.substring(at, end);
      String kind;
      if (run == letters) kind = s.length() > 8 ? "bad" : QUOTED.contains(s) ? s : "NAME";
      else if (run == digits) kind = s.length() > 4 ? "bad" : "INT";
      else kind = ";=+-*/<()".contains(s) ? s : "bad";
      all.add(new Token(kind, s, at));
      at = end;
    }
    return all;
  }

  // The grammar, as rules without left recursion; what is no key here is a TOKEN's kind.
  static final Map<String, List<List<String>>> RULES = new LinkedHashMap<>();
  static {
    rule("TEXT", "", "TELL TEXT");
    List<String> tells = new ArrayList<>(List.of("spouse NAME INT ;", "couple NAME NAME ;", "third NAME INT INT ;", "fine INT ;", "seed INT ;"));
    for (String law : LAWS) tells.add(law + " LAW ;");
    rule("TELL", tells.toArray(new String[0]));
    rule("LAW", "= IFS E");
    rule("IFS", "", "if E < E then E else IFS");
    rule("E", "PART MOREPARTS");
    rule("MOREPARTS", "", "+ PART MOREPARTS", "- PART MOREPARTS");
    rule("PART", "UNIT MOREUNITS");
    rule("MOREUNITS", "", "* UNIT MOREUNITS", "/ UNIT MOREUNITS");
    List<String> units = new ArrayList<>(List.of("INT", "( E )"));
    units.addAll(VARS);
    rule("UNIT", units.toArray(new String[0]));
  }

  private static void rule(String name, String... ways) {
    List<List<String>> all = new ArrayList<>();
    for (String way : ways) all.add(way.isEmpty() ? List.of() : List.of(way.split(" ")));
    RULES.put(name, all);
  }

  // All that may stand ahead of us, each as the symbols still to come; they begin with a TOKEN's kind.
  private static Set<List<String>> open(List<String> symbols) {
    if (symbols.isEmpty() || !RULES.containsKey(symbols.get(0))) return Set.of(symbols);
    Set<List<String>> all = new HashSet<>();
    for (List<String> way : RULES.get(symbols.get(0))) {
      List<String> next = new ArrayList<>(way);
      next.addAll(symbols.subList(1, symbols.size()));
      all.addAll(open(next));
    }
    return all;
  }

  // The place of the first TOKEN with which no text goes on; -1: the text is one.
  static int syntaxPlace(String text, List<Token> tokens) {
    Set<List<String>> states = open(List.of("TEXT"));
    for (Token t : tokens) {
      Set<List<String>> next = new HashSet<>();
      for (List<String> state : states) {
        if (!state.isEmpty() && state.get(0).equals(t.kind)) next.addAll(open(state.subList(1, state.size())));
      }
      if (next.isEmpty()) return t.place;
      states = next;
    }
    return states.contains(List.<String>of()) ? -1 : text.length();
  }

  static void addRoomFaults(List<Token> tokens, TreeMap<Integer, Integer> faults) {
    if (tokens.size() > 400) faults.merge(tokens.get(400).place, 2, Math::min);
    Map<String, Integer> most = Map.of("spouse", 6, "couple", 3, "third", 4);
    Map<String, Integer> had = new HashMap<>();
    int ifs = 0;
    int open = 0;
    for (Token t : tokens) {
      int n = had.merge(t.kind, 1, Integer::sum);
      if (most.containsKey(t.kind) && n > most.get(t.kind)) faults.merge(t.place, 2, Math::min);
      if (t.kind.equals(";")) { ifs = 0; open = 0; }
      if (t.kind.equals("if") && ++ifs > 4) faults.merge(t.place, 2, Math::min);
      if (t.kind.equals(")")) open--;
      if (t.kind.equals("(") && ++open > 6) faults.merge(t.place, 2, Math::min);
    }
  }

  static List<List<Token>> tells(List<Token> tokens) {
    List<List<Token>> all = new ArrayList<>();
    List<Token> one = new ArrayList<>();
    for (Token t : tokens) {
      if (t.kind.equals(";")) {
        all.add(one);
        one = new ArrayList<>();
      } else one.add(t);
    }
    return all;
  }

  static void addMeaningFaults(List<List<Token>> tells, TreeMap<Integer, Integer> faults) {
    Set<String> names = new HashSet<>();
    Set<String> spouses = new HashSet<>();
    Set<String> taken = new HashSet<>();
    for (List<Token> t : tells) {
      String sort = t.get(0).kind;
      if (sort.equals("spouse") || sort.equals("third")) {
        boolean fresh = names.add(t.get(1).text);
        if (!fresh) faults.merge(t.get(1).place, 3, Math::min);
        if (fresh && sort.equals("spouse")) spouses.add(t.get(1).text);
      }
      if (sort.equals("couple")) {
        for (int i = 1; i <= 2; i++) {
          String name = t.get(i).text;
          if (!spouses.contains(name)) faults.merge(t.get(i).place, 4, Math::min);
          else if (!taken.add(name)) faults.merge(t.get(i).place, 3, Math::min);
        }
      }
      int[] most = switch (sort) {
        case "spouse" -> new int[] {99};
        case "third" -> new int[] {9, 99};
        case "fine" -> new int[] {99};
        case "seed" -> new int[] {9999};
        default -> new int[0];
      };
      for (int i = 0; i < most.length; i++) {
        Token number = t.get(t.size() - most.length + i);
        if (Integer.parseInt(number.text) > most[i]) faults.merge(number.place, 5, Math::min);
      }
    }
  }

  // ---- laws as trees

  interface Tree { int value(Map<String, Integer> vars); }

  record Leaf(String text) implements Tree {
    public int value(Map<String, Integer> vars) {
      return Character.isDigit(text.charAt(0)) ? Integer.parseInt(text) : vars.getOrDefault(text, 0);
    }
  }

  record Join(char sign, Tree left, Tree right) implements Tree {
    public int value(Map<String, Integer> vars) {
      long a = left.value(vars);
      long b = right.value(vars);
      return switch (sign) {
        case '+' -> (int) (a + b);
        case '-' -> (int) (a - b);
        case '*' -> (int) (a * b);
        default -> (int) (a / b);
      };
    }
  }

  record Choice(Tree less, Tree more, Tree yes, Tree no) implements Tree {
    public int value(Map<String, Integer> vars) {
      return less.value(vars) < more.value(vars) ? yes.value(vars) : no.value(vars);
    }
  }

  static final class Grower {
    final List<Token> tokens;
    int at;

    Grower(List<Token> tokens, int at) {
      this.tokens = tokens;
      this.at = at;
    }

    String kind() { return at < tokens.size() ? tokens.get(at).kind : ""; }

    Tree law() {
      if (!kind().equals("if")) return e();
      at++;
      Tree less = e();
      at++;
      Tree more = e();
      at++;
      Tree yes = e();
      at++;
      return new Choice(less, more, yes, law());
    }

    Tree e() {
      Tree tree = part();
      while (kind().equals("+") || kind().equals("-")) {
        char sign = tokens.get(at++).text.charAt(0);
        tree = new Join(sign, tree, part());
      }
      return tree;
    }

    Tree part() {
      Tree tree = unit();
      while (kind().equals("*") || kind().equals("/")) {
        char sign = tokens.get(at++).text.charAt(0);
        tree = new Join(sign, tree, unit());
      }
      return tree;
    }

    Tree unit() {
      Token t = tokens.get(at++);
      if (!t.kind.equals("(")) return new Leaf(t.text);
      Tree tree = e();
      at++;
      return tree;
    }
  }

  // ---- the state

  static final class Spouse { int mood, heard; Integer couple; int number; Spouse copy() { Spouse s = new Spouse(); s.mood = mood; s.heard = heard; s.couple = couple; s.number = number; return s; } }
  static final class Couple { int one, two, paid, silent; Integer third; boolean parted; Couple copy() { Couple c = new Couple(); c.one = one; c.two = two; c.paid = paid; c.silent = silent; c.third = third; c.parted = parted; return c; } }
  static final class Third { int price, tired, love, paid, fined; boolean sworn; Third copy() { Third t = new Third(); t.price = price; t.tired = tired; t.love = love; t.paid = paid; t.fined = fined; t.sworn = sworn; return t; } }

  static final class World {
    List<Spouse> spouses = new ArrayList<>();
    List<Couple> couples = new ArrayList<>();
    List<Third> thirds = new ArrayList<>();
    Map<String, Tree> laws = new HashMap<>();
    int week, said, heard, fines, fine = 10, seed = 0;

    World() {
      laws.put("length", new Leaf("2"));
      laws.put("says", new Leaf("place"));
      laws.put("bends", new Leaf("word"));
      for (String law : List.of("drops", "takes", "loves", "dares")) laws.put(law, new Leaf("0"));
    }

    World copy() {
      World w = new World();
      for (Spouse s : spouses) w.spouses.add(s.copy());
      for (Couple c : couples) w.couples.add(c.copy());
      for (Third t : thirds) w.thirds.add(t.copy());
      w.laws = laws;
      w.week = week;
      w.said = said;
      w.heard = heard;
      w.fines = fines;
      w.fine = fine;
      w.seed = seed;
      return w;
    }

    int law(String name, Object... vars) {
      Map<String, Integer> map = new HashMap<>();
      map.put("week", week);
      for (int i = 0; i < vars.length; i += 2) map.put((String) vars[i], (Integer) vars[i + 1]);
      try {
        return laws.get(name).value(map);
      } catch (ArithmeticException zero) {
        return 0;
      }
    }

    List<Integer> said(int spouse) {
      int mood = spouses.get(spouse).mood;
      int n = Math.max(0, Math.min(5, law("length", "mood", mood, "which", spouse)));
      List<Integer> row = new ArrayList<>();
      for (int i = 0; i < n; i++) row.add(Math.max(0, law("says", "place", i, "mood", mood, "which", spouse) % 8));
      return row;
    }

    boolean dares(int third) {
      Third t = thirds.get(third);
      return law("dares", "fines", t.fined, "love", t.love, "tired", t.tired, "which", third) > 0;
    }

    int put(int third, int word, int place) {
      Third t = thirds.get(third);
      if (t.sworn && !dares(third)) return word;
      return Math.max(0, law("bends", "word", word, "place", place, "tired", t.tired, "love", t.love, "price", t.price, "which", third) % 9);
    }

    List<Integer> put(int third, List<Integer> row) {
      List<Integer> out = new ArrayList<>();
      for (int i = 0; i < row.size(); i++) {
        int w = put(third, row.get(i), i);
        if (w < 8) out.add(w);
      }
      return out;
    }

    int moodBehind(int spouse, List<Integer> row) {
      int mood = spouses.get(spouse).mood;
      for (int i = 0; i < row.size(); i++) {
        int t = law("takes", "word", row.get(i), "mood", mood, "which", spouse, "place", i);
        mood = Math.max(0, Math.min(99, mood + Math.max(-9, Math.min(9, t))));
      }
      return mood;
    }

    List<Integer> arrived(int couple, int third, List<Integer> row, int lotSeed) {
      Third t = thirds.get(third);
      int drops = Math.max(0, Math.min(100, law("drops", "tired", t.tired, "love", t.love, "which", third)));
      List<Integer> out = new ArrayList<>();
      for (int i = 0; i < row.size(); i++) {
        int w = put(third, row.get(i), i);
        if (w < 8 && lot(100, lotSeed, 256 * week + 64 * third + 8 * couple + i) >= drops) out.add(w);
      }
      return out;
    }

    void week(int lotSeed) {
      for (int c = 0; c < couples.size(); c++) {
        Couple couple = couples.get(c);
        if (couple.parted) continue;
        int speaker = week % 2 == 0 ? couple.one : couple.two;
        int hearer = week % 2 == 0 ? couple.two : couple.one;
        if (couple.third == null) {
          couple.silent++;
          for (int s : new int[] {speaker, hearer}) spouses.get(s).mood = Math.max(0, spouses.get(s).mood - 1);
        } else {
          Third t = thirds.get(couple.third);
          List<Integer> row = said(speaker);
          List<Integer> in = arrived(c, couple.third, row, lotSeed);
          int more = law("loves", "mood", spouses.get(speaker).mood, "tired", t.tired, "love", t.love, "which", c);
          spouses.get(hearer).mood = moodBehind(hearer, in);
          spouses.get(hearer).heard += in.size();
          said += row.size();
          heard += in.size();
          couple.paid += t.price * row.size();
          t.paid += t.price * row.size();
          t.tired = Math.min(99, t.tired + row.size());
          t.love = Math.min(99, t.love + Math.max(0, Math.min(9, more)));
          if (t.sworn && !in.equals(row)) {
            t.paid -= fine;
            t.fined++;
            fines++;
          }
        }
      }
      for (Couple couple : couples) {
        if (spouses.get(couple.one).mood == 0 || spouses.get(couple.two).mood == 0) {
          couple.parted = true;
          couple.third = null;
        }
      }
      for (int t = 0; t < thirds.size(); t++) {
        if (bitsOf(t) == 0) thirds.get(t).tired = Math.max(0, thirds.get(t).tired - 5);
      }
      week++;
    }

    int bitsOf(int third) {
      int bits = 0;
      for (int c = 0; c < couples.size(); c++) if (couples.get(c).third != null && couples.get(c).third == third) bits += 1 << c;
      return bits;
    }

    World in(int n, int lotSeed) {
      World w = copy();
      for (int i = 0; i < n; i++) w.week(lotSeed);
      return w;
    }
  }

  static int lot(int n, int seed, int which) {
    long h = seed & 0xffffffffL;
    for (long it : new long[] {91, which & 0xffffffffL}) {
      h = ((h ^ it) * 1103515245L + 12345) & 0xffffffffL;
      h = h ^ (h >> 15);
    }
    return (int) ((h >> 1) % n);
  }

  // ---- rows

  static List<Integer> row(int number) {
    String s = number > 0 ? Integer.toOctalString(number) : "";
    if (!s.startsWith("1") || s.length() > 6) return null;
    List<Integer> row = new ArrayList<>();
    for (int i = 1; i < s.length(); i++) row.add(s.charAt(i) - '0');
    return row;
  }

  static int number(List<Integer> row) {
    StringBuilder s = new StringBuilder("1");
    for (int w : row) s.append(w);
    return Integer.parseInt(s.toString(), 8);
  }

  static int changes(List<Integer> a, List<Integer> b) {
    if (a.isEmpty() || b.isEmpty()) return a.size() + b.size();
    List<Integer> ra = a.subList(1, a.size());
    List<Integer> rb = b.subList(1, b.size());
    if (a.get(0).equals(b.get(0))) return changes(ra, rb);
    return 1 + Math.min(changes(ra, rb), Math.min(changes(ra, b), changes(a, rb)));
  }

  // ---- the face

  StringBuilder tape = new StringBuilder();
  int fault, faultPlace = -1;
  World w = new World();
  ArrayDeque<World> done = new ArrayDeque<>();
  World[] slots = new World[3];
  List<int[]> told = new ArrayList<>();

  int feed(int... ints) {
    if (tape.length() + 20 > 2000) return -1;
    for (int x : ints) for (int s = 24; s >= 0; s -= 8) tape.append((char) (x >> s & 255));
    return tape.length();
  }

  int back(int n) {
    if (n < 0 || n > tape.length()) return -1;
    tape.setLength(tape.length() - n);
    return tape.length();
  }

  int read() {
    String text = tape.toString();
    tape.setLength(0);
    List<Token> tokens = tokens(text);
    TreeMap<Integer, Integer> faults = new TreeMap<>();
    int syntax = syntaxPlace(text, tokens);
    if (syntax >= 0) faults.put(syntax, 1);
    addRoomFaults(tokens, faults);
    List<List<Token>> tells = tells(tokens);
    if (faults.isEmpty()) addMeaningFaults(tells, faults);
    fault = faults.isEmpty() ? 0 : faults.firstEntry().getValue();
    faultPlace = faults.isEmpty() ? -1 : faults.firstKey();
    if (fault == 0) begin(tells);
    return fault;
  }

  private void begin(List<List<Token>> tells) {
    w = new World();
    done.clear();
    Arrays.fill(slots, null);
    told.clear();
    List<String> names = new ArrayList<>();
    for (List<Token> t : tells) {
      String sort = t.get(0).kind;
      if (sort.equals("spouse")) {
        Spouse s = new Spouse();
        s.mood = Integer.parseInt(t.get(2).text);
        names.add(t.get(1).text);
        w.spouses.add(s);
      } else if (sort.equals("couple")) {
        Couple c = new Couple();
        c.one = names.indexOf(t.get(1).text);
        c.two = names.indexOf(t.get(2).text);
        w.spouses.get(c.one).couple = w.couples.size();
        w.spouses.get(c.two).couple = w.couples.size();
        w.couples.add(c);
      } else if (sort.equals("third")) {
        Third x = new Third();
        x.price = Integer.parseInt(t.get(2).text);
        x.tired = Integer.parseInt(t.get(3).text);
        w.thirds.add(x);
      } else if (sort.equals("fine")) w.fine = Integer.parseInt(t.get(1).text);
      else if (sort.equals("seed")) w.seed = Integer.parseInt(t.get(1).text);
      else w.laws.put(sort, new Grower(t, 2).law());
    }
  }

  boolean isSpouse(int s) { return s >= 0 && s < w.spouses.size(); }
  boolean isCouple(int c) { return c >= 0 && c < w.couples.size(); }
  boolean isThird(int t) { return t >= 0 && t < w.thirds.size(); }

  int spouse(int s, int what) {
    if (!isSpouse(s)) return -1;
    Spouse x = w.spouses.get(s);
    return what == 0 ? x.mood : what == 1 ? (x.couple == null ? -2 : x.couple) : what == 2 ? number(w.said(s)) : what == 3 ? x.heard : -1;
  }

  int couple(int c, int what) {
    if (!isCouple(c)) return -1;
    Couple x = w.couples.get(c);
    return switch (what) {
      case 0 -> x.one;
      case 1 -> x.two;
      case 2 -> x.third == null ? -2 : x.third;
      case 3 -> x.parted ? 1 : 0;
      case 4 -> x.paid;
      case 5 -> x.silent;
      default -> -1;
    };
  }

  int third(int t, int what) {
    if (!isThird(t)) return -100000;
    Third x = w.thirds.get(t);
    return switch (what) {
      case 0 -> x.price;
      case 1 -> x.tired;
      case 2 -> x.love;
      case 3 -> x.sworn ? 1 : 0;
      case 4 -> x.paid;
      case 5 -> x.fined;
      case 6 -> w.bitsOf(t);
      case 7 -> w.dares(t) ? 1 : 0;
      default -> -100000;
    };
  }

  private void remember() {
    done.addLast(w.copy());
    if (done.size() > 40) done.removeFirst();
  }

  boolean hire(int c, int t) {
    if (!isCouple(c) || t != -1 && !isThird(t) || w.couples.get(c).parted) return false;
    Integer third = t == -1 ? null : (Integer) t;
    if (java.util.Objects.equals(w.couples.get(c).third, third)) return false;
    remember();
    w.couples.get(c).third = third;
    return true;
  }

  boolean swear(int t, boolean sworn) {
    if (!isThird(t) || w.thirds.get(t).sworn == sworn) return false;
    remember();
    w.thirds.get(t).sworn = sworn;
    return true;
  }

  int weeks(int n) {
    if (n < 0 || n > 60) return -1;
    if (n > 0) {
      remember();
      w = w.in(n, w.seed);
    }
    return w.week;
  }

  boolean undo() {
    if (done.isEmpty()) return false;
    w = done.removeLast();
    return true;
  }

  int bends(int t, int word, int at) {
    return !isThird(t) || word < 0 || word > 7 || at < 0 || at > 4 ? -1 : w.put(t, word, at);
  }

  int heard(int t, int row) { return !isThird(t) || row(row) == null ? -1 : number(w.put(t, row(row))); }

  int chain(int a, int b, int row) {
    return !isThird(a) || !isThird(b) || row(row) == null ? -1 : number(w.put(b, w.put(a, row(row))));
  }

  int say(int t, int row) {
    if (!isThird(t) || row(row) == null) return -1;
    for (int n = 1; n < 8192; n++) if (row(n) != null && w.put(t, row(n)).equals(row(row))) return n;
    return -2;
  }

  int loses(int a, int b, int row) {
    int out = chain(a, b, row);
    return out == -1 ? -1 : changes(row(row), row(out));
  }

  int least(int row) {
    if (row(row) == null) return -1;
    int best = -2;
    for (int p = w.thirds.size() * w.thirds.size() - 1; p >= 0; p--) {
      int a = p / w.thirds.size();
      int b = p % w.thirds.size();
      if (best == -2 || loses(a, b, row) <= loses(best / 10, best % 10, row)) best = 10 * a + b;
    }
    return best;
  }

  int truest(int row) {
    if (row(row) == null) return -1;
    int best = -2;
    for (int t = w.thirds.size() - 1; t >= 0; t--) {
      if (best == -2 || changes(row(row), w.put(t, row(row))) <= changes(row(row), w.put(best, row(row)))) best = t;
    }
    return best;
  }

  int crooked(int t, int at) {
    if (!isThird(t) || at < 0 || at > 4) return -1;
    int n = 8;
    for (int word = 0; word < 8; word++) if (w.put(t, word, at) == word) n--;
    return n;
  }

  int altered(int a, int b) { return row(a) == null || row(b) == null ? -1 : changes(row(a), row(b)); }

  int takes(int s, int row) { return !isSpouse(s) || row(row) == null ? -1 : w.moodBehind(s, row(row)); }

  private int bestSum;
  private Map<Integer, Integer> best;

  private void assign(List<Integer> couples, Map<Integer, Integer> chosen, int sum) {
    if (chosen.size() == couples.size()) {
      if (best == null || sum < bestSum) {
        best = new HashMap<>(chosen);
        bestSum = sum;
      }
      return;
    }
    int c = couples.get(chosen.size());
    Couple couple = w.couples.get(c);
    List<Integer> row = w.said(w.week % 2 == 0 ? couple.one : couple.two);
    for (int t = 0; t < w.thirds.size(); t++) {
      if (chosen.containsValue(t)) continue;
      chosen.put(c, t);
      assign(couples, chosen, sum + changes(row, w.put(t, row)));
      chosen.remove(c);
    }
  }

  int hires(int c) {
    if (c != -1 && !isCouple(c)) return -1;
    List<Integer> couples = new ArrayList<>();
    for (int i = 0; i < w.couples.size(); i++) if (!w.couples.get(i).parted) couples.add(i);
    if (couples.size() > w.thirds.size()) return -2;
    best = null;
    assign(couples, new LinkedHashMap<>(), 0);
    return c == -1 ? bestSum : best.getOrDefault(c, -2);
  }

  int then(int s, int n) { return !isSpouse(s) || n < 0 || n > 60 ? -1 : w.in(n, w.seed).spouses.get(s).mood; }

  int paid(int t, int n, int what) {
    if (!isThird(t) || n < 0 || n > 60 || what < 0 || what > 2) return -100000;
    Third x = w.in(n, w.seed).thirds.get(t);
    return what == 0 ? x.paid : what == 1 ? x.tired : x.love;
  }

  int parts(int c) {
    if (!isCouple(c)) return -1;
    World x = w.copy();
    for (int n = 0; n <= 200; n++) {
      if (x.couples.get(c).parted) return n;
      x.week(w.seed);
    }
    return -2;
  }

  private int paidIf(int set, int n, int t) {
    World x = w.copy();
    for (int i = 0; i < x.thirds.size(); i++) x.thirds.get(i).sworn = (set >> i & 1) == 1;
    return x.in(n, w.seed).thirds.get(t).paid;
  }

  int oaths(int n, int i) {
    if (n < 1 || n > 24 || i < -1) return -1;
    List<Integer> resting = new ArrayList<>();
    for (int set = 0; set < 1 << w.thirds.size(); set++) {
      boolean rests = true;
      for (int t = 0; t < w.thirds.size(); t++) rests &= paidIf(set ^ 1 << t, n, t) <= paidIf(set, n, t);
      if (rests) resting.add(set);
    }
    return i == -1 ? resting.size() : i < resting.size() ? resting.get(i) : -1;
  }

  int year(int c, int n, int s) {
    if (!isCouple(c) || n < 0 || n > 60 || s < 1 || s > 20) return -1;
    int all = 0;
    for (int i = 0; i < s; i++) if (w.in(n, w.seed + i).couples.get(c).parted) all++;
    return all;
  }

  int tell(int word, int row) {
    if (word < 0 || word > 7 || row(row) == null || row(row).size() > 1 || told.size() == 20) return -1;
    told.add(new int[] {word, row});
    return told.size() - 1;
  }

  int forget() {
    int n = told.size();
    told.clear();
    return n;
  }

  private List<Integer> may(List<int[]> known) {
    List<Integer> all = new ArrayList<>();
    for (int t = 0; t < w.thirds.size(); t++) {
      boolean may = true;
      for (int[] k : known) may &= w.put(t, List.of(k[0])).equals(row(k[1]));
      if (may) all.add(t);
    }
    return all;
  }

  int who(int k) {
    if (k < 0 || k > told.size()) return -1;
    int bits = 0;
    for (int t : may(told.subList(0, k))) bits += 1 << t;
    return bits;
  }

  int ask(int k) {
    if (k < 0 || k > told.size()) return -1;
    List<Integer> may = may(told.subList(0, k));
    if (may.isEmpty()) return -2;
    int best = -1;
    int bestLeft = 99;
    for (int word = 0; word < 8; word++) {
      int worst = 0;
      for (int t : may) {
        List<int[]> more = new ArrayList<>(told.subList(0, k));
        more.add(new int[] {word, number(w.put(t, List.of(word)))});
        worst = Math.max(worst, may(more).size());
      }
      if (worst < bestLeft) {
        best = word;
        bestLeft = worst;
      }
    }
    return best;
  }

  boolean hold(int slot) {
    if (slot < 0 || slot > 2) return false;
    slots[slot] = w.copy();
    return true;
  }

  boolean restore(int slot) {
    if (slot < 0 || slot > 2 || slots[slot] == null) return false;
    w = slots[slot].copy();
    done.clear();
    return true;
  }

  int count(int what) {
    int bits = 0;
    switch (what) {
      case 0: return w.spouses.size();
      case 1: return w.couples.size();
      case 2: return w.thirds.size();
      case 3: return w.week;
      case 4: for (int c = 0; c < w.couples.size(); c++) if (w.couples.get(c).parted) bits += 1 << c; return bits;
      case 5: for (int t = 0; t < w.thirds.size(); t++) if (w.thirds.get(t).sworn) bits += 1 << t; return bits;
      case 6: return w.said;
      case 7: return w.heard;
      case 8: return tape.length();
      case 9: return done.size();
      case 10: return told.size();
      case 11: return (int) Arrays.stream(slots).filter(s -> s != null).count();
      case 12: return w.fines;
      case 13: return w.spouses.stream().mapToInt(s -> s.mood).sum();
      default: return -1;
    }
  }
}
