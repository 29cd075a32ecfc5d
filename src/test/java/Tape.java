/** Feeds texts and checks answers, for all tests of the project. */
final class Tape {
  private int checks = 0;
  private int wrong = 0;

  static void feed(SpouseTalk x, String text) {
    StringBuilder padded = new StringBuilder(text);
    while (padded.length() % 20 != 0) padded.append(' ');
    for (int i = 0; i < padded.length(); i += 20) {
      x.feed(four(padded, i), four(padded, i + 4), four(padded, i + 8), four(padded, i + 12), four(padded, i + 16));
    }
    x.back(padded.length() - text.length());
  }

  private static int four(CharSequence text, int at) {
    int all = 0;
    for (int i = 0; i < 4; i++) all = all << 8 | text.charAt(at + i) & 255;
    return all;
  }

  static SpouseTalk read(String text) {
    SpouseTalk x = new SpouseTalk();
    feed(x, text);
    int fault = x.read();
    if (fault != 0) throw new IllegalStateException("fault " + fault + " at " + x.place() + " of " + text);
    return x;
  }

  void due(String what, long got, long want) {
    checks++;
    if (got != want) {
      wrong++;
      System.out.println(what + " answered " + got + ", due is " + want);
    }
  }

  void due(String what, boolean got, boolean want) {
    due(what, got ? 1 : 0, want ? 1 : 0);
  }

  void end() {
    System.out.println(checks + " checks, " + wrong + " wrong");
    if (wrong != 0) System.exit(1);
  }
}
