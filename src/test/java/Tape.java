/** Feeds texts and checks answers, for all tests of the project. */
final class Tape {
  private int checks = 0;
  private int wrong = 0;

  static void feed(SpouseTalk x, String text) {
    StringBuilder padded = new StringBuilder(text);
    while (padded.length() % 20 != 0) padded.append(' ');
    for (int i = 0; i < padded.length(); i += 20) {
      x.feed(four(padded, i), four(padded, i + 4), four(padded, i + 8), four(padded, i + 12), four(padded, i + 16));
    }
    x.back(padded.length() - text.length());
  }

  private static int four(CharSequence text, int at) {
    int all = 0;
    for (int i = 0; i < 4; i++) all = all << 8 | text.charAt(at + i) & 255;
    return all;
  }

  static SpouseTalk read(String text) {
    SpouseTalk x = new SpouseTalk();
    feed(x, text);
    int fault = x.read();
    if (fault != 0) throw new IllegalStateException("fault " + fault + " at " + x.place() + " of " + text);
    return x;
  }

  static int row(int... words) {
    int all = 1;
    for (int w : words) all = all * 8 + w;
    return all;
  }

  /** All that can be seen of how things are, in 88 calls at most; to see that nothing happened. */
  static String all(SpouseTalk x) {
    StringBuilder s = new StringBuilder();
    for (int what = 0; what <= 13; what++) s.append("count ").append(what).append(": ").append(x.count(what)).append('\n');
    for (int i = 0; i < x.count(0); i++) for (int what = 0; what <= 3; what++) s.append("spouse ").append(i).append(' ').append(what).append(": ").append(x.spouse(i, what)).append('\n');
    for (int i = 0; i < x.count(1); i++) for (int what = 0; what <= 5; what++) s.append("couple ").append(i).append(' ').append(what).append(": ").append(x.couple(i, what)).append('\n');
    for (int i = 0; i < x.count(2); i++) for (int what = 0; what <= 7; what++) s.append("third ").append(i).append(' ').append(what).append(": ").append(x.third(i, what)).append('\n');
    return s.toString();
  }

  /** A text on a new object: the number of its FAULT and its place; 0 and NONE if it has none. */
  void fault(String text, int number, int place) {
    SpouseTalk x = new SpouseTalk();
    feed(x, text);
    due("read of " + text, x.read(), number);
    due("place of " + text, x.place(), place);
  }

  void good(String text) {
    fault(text, 0, SpouseTalk.NONE);
  }

  void due(String what, long got, long want) {
    checks++;
    if (got != want) {
      wrong++;
      System.out.println(what + " answered " + got + ", due is " + want);
    }
  }

  void due(String what, boolean got, boolean want) {
    due(what, got ? 1 : 0, want ? 1 : 0);
  }

  void same(String what, String got, String want) {
    checks++;
    if (!got.equals(want)) {
      wrong++;
      System.out.println(what + ": is\n" + got + "was\n" + want);
    }
  }

  void end() {
    System.out.println(checks + " checks, " + wrong + " wrong");
    if (wrong != 0) System.exit(1);
  }
}
