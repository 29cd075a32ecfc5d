/**
 * The sentences of the document's parts III and IV and of the promises 1 to 35 that name a boundary
 * case or a refused call, one method each: at the bound, just inside it and just outside it.
 */
public final class BoundsCallTest {
  private static final Tape T = new Tape();
  private static final int NONE = SpouseTalk.NONE;
  private static final int MIN = Integer.MIN_VALUE;
  private static final int MAX = Integer.MAX_VALUE;
  private static final int BLANKS = 0x20202020;

  private static final String SMALL = "spouse a 50; spouse b 60; couple a b; third t 3 10;";
  private static final String FULL = "spouse a 50; spouse b 51; spouse c 52; spouse d 53; spouse e 54; spouse f 55; couple a b; couple c d; couple e f;"
      + "third p 1 10; third q 2 20; third r 3 30; third s 4 40; length = 3; says = which + place; bends = word + which; takes = word - 3; loves = 1; dares = love - 2;";
  private static final String[] TEXTS = {"", SMALL, FULL};
  private static final int[] SPOUSES = {0, 2, 6};
  private static final int[] COUPLES = {0, 1, 3};
  private static final int[] THIRDS = {0, 1, 4};

  private static int row(int... words) {
    return Tape.row(words);
  }

  /** Numbers just outside 0 .. n - 1 and far from it. */
  private static int[] outside(int n) {
    return new int[] {-1, n, -2, n + 1, MIN, MAX};
  }

  private static int feedBlanks(SpouseTalk x) {
    return x.feed(BLANKS, BLANKS, BLANKS, BLANKS, BLANKS);
  }

  // 1: "No SPOUSES, no THIRDS."
  private static void newObject() {
    SpouseTalk x = new SpouseTalk();
    for (int what = 0; what <= 13; what++) T.due("count " + what, x.count(what), 0);
    T.due("place", x.place(), NONE);
    T.due("undo", x.undo(), false);
    T.due("forget", x.forget(), 0);
    T.due("who", x.who(0), 0);
    T.due("ask", x.ask(0), -2);
    T.due("hires", x.hires(NONE), 0);
    T.due("oaths", x.oaths(1, NONE), 1);
    T.due("oaths", x.oaths(24, 0), 0);
    T.due("least", x.least(1), -2);
    T.due("truest", x.truest(1), -2);
    T.due("altered", x.altered(1, 8), 1);
    T.due("week", x.weeks(0), 0);
    for (int slot = 0; slot < 3; slot++) T.due("nothing held", x.restore(slot), false);
    T.same("as if an empty text were read", Tape.all(x), Tape.all(Tape.read("")));
  }

  // 2: "Twenty bytes, the highest of a first, come behind the tape: how many it has."
  private static void twentyBytes() {
    SpouseTalk x = new SpouseTalk();
    // Each of the 20 bytes at its place: a text of 20 bytes whose one bad byte moves through it.
    for (int at = 0; at < 20; at++) {
      int[] ints = {BLANKS, BLANKS, BLANKS, BLANKS, BLANKS};
      ints[at / 4] ^= 0x80 << 8 * (3 - at % 4);
      T.due("20", x.feed(ints[0], ints[1], ints[2], ints[3], ints[4]), 20);
      T.due("bad byte", x.read(), 1);
      T.due("bad byte", x.place(), at);
    }
    T.due("bytes of -1", x.feed(-1, -1, -1, -1, -1), 20);
    T.due("40", x.feed(BLANKS, 0, MIN, MAX, -1), 40);
    T.due("read", x.read(), 1);
    T.due("first byte", x.place(), 0);
    feedBlanks(x);
    T.due("behind the tape", x.feed(0x66696e65, BLANKS, BLANKS, BLANKS, 0x2020373b), 40);
    T.due("fine 7", x.read(), 0);
  }

  // 2: "NONE, and nothing comes, if it would have more than 2,000."
  private static void feedUpTo2000() {
    for (int less = 18; less <= 42; less++) {
      SpouseTalk x = new SpouseTalk();
      for (int i = 0; i < 100; i++) feedBlanks(x);
      x.back(less);
      int due = less >= 20 ? 2020 - less : NONE;
      T.due("feed behind " + (2000 - less), feedBlanks(x), due);
      T.due("bytes", x.count(8), due == NONE ? 2000 - less : due);
      T.due("blanks only", x.read(), 0);
    }
    SpouseTalk x = new SpouseTalk();
    for (int i = 1; i <= 100; i++) T.due("feed " + i, feedBlanks(x), 20 * i);
    for (int i = 0; i < 3; i++) T.due("full", x.feed(-1, -1, -1, -1, -1), NONE);
    T.due("nothing came", x.count(8), 2000);
    T.due("nothing came", x.read(), 0);
    T.due("empty again", feedBlanks(x), 20);
  }

  // 3: "NONE, and nothing goes, if it has not so many, or n is below 0."
  private static void backWithinTheTape() {
    SpouseTalk x = new SpouseTalk();
    T.due("0 of 0", x.back(0), 0);
    for (int n : new int[] {1, -1, MIN, MAX, 20}) T.due(n + " of 0", x.back(n), NONE);
    Tape.feed(x, "fine 1; seed 2;");
    for (int n : new int[] {16, 17, -1, MIN, MAX}) T.due(n + " of 15", x.back(n), NONE);
    T.due("nothing goes", x.count(8), 15);
    T.due("0 of 15", x.back(0), 15);
    T.due("1 of 15", x.back(1), 14);
    T.due("13 of 14", x.back(13), 1);
    T.due("2 of 1", x.back(2), NONE);
    T.due("1 of 1", x.back(1), 0);
    T.due("nothing left", x.read(), 0);
    Tape.feed(x, "fine 1; ?");
    x.back(1);
    T.due("the last one goes", x.read(), 0);
    for (int i = 0; i < 100; i++) feedBlanks(x);
    T.due("2,001 of 2,000", x.back(2001), NONE);
    T.due("2,000 of 2,000", x.back(2000), 0);
  }

  // 4: "The tape, which is empty then, is read: 0, or the number of its FAULT."
  private static void readEmptiesTheTape() {
    SpouseTalk x = new SpouseTalk();
    String[] texts = {"fine 1;", "fine", "third p 1 1;third q 1 1;third r 1 1;third s 1 1;third t 1 1;", "spouse a 1;spouse a 1;", "couple a b;", "fine 100;", ""};
    int[] faults = {0, 1, 2, 3, 4, 5, 0};
    for (int i = 0; i < texts.length; i++) {
      Tape.feed(x, texts[i]);
      T.due("bytes", x.count(8), texts[i].length());
      T.due("read " + texts[i], x.read(), faults[i]);
      T.due("empty then", x.count(8), 0);
      T.due("nothing to go back", x.back(1), NONE);
    }
    Tape.feed(x, SMALL);
    x.read();
    T.due("spouses", x.count(0), 2);
    T.due("an empty tape is a text, too", x.read(), 0);
    T.due("no spouses", x.count(0), 0);
  }

  // 5: "The byte of the latest read()'s FAULT; NONE without."
  private static void placeOfTheLatestRead() {
    SpouseTalk x = new SpouseTalk();
    T.due("no read yet", x.place(), NONE);
    String[] texts = {"fine", "fine 1;", "?", "", "  fine 100;", "fine 1;"};
    int[] places = {4, NONE, 0, NONE, 7, NONE};
    for (int i = 0; i < texts.length; i++) {
      Tape.feed(x, texts[i]);
      T.due("by feeding nothing changes", x.place(), i == 0 ? NONE : places[i - 1]);
      x.read();
      T.due("place in " + texts[i], x.place(), places[i]);
    }
    Tape.feed(x, "  ?");
    x.read();
    x.weeks(1);
    x.hold(0);
    x.restore(0);
    x.weeks(1);
    x.undo();
    T.due("the latest read's", x.place(), 2);
  }

  // 6: "Of a SPOUSE: what 0 .., 1 its COUPLE (-2: none), .. NONE for others."
  private static void spousesAndOthers() {
    for (int t = 0; t < TEXTS.length; t++) {
      SpouseTalk x = Tape.read(TEXTS[t]);
      for (int s = 0; s < SPOUSES[t]; s++) {
        for (int what = 0; what <= 3; what++) T.due("spouse " + s + " " + what, x.spouse(s, what) >= 0, true);
        for (int what : outside(4)) T.due("spouse " + s + " " + what, x.spouse(s, what), NONE);
      }
      for (int s : outside(SPOUSES[t])) for (int what = -1; what <= 4; what++) T.due("spouse " + s + " " + what, x.spouse(s, what), NONE);
    }
    SpouseTalk x = Tape.read("spouse a 0; spouse b 99; spouse c 7; couple c a; length = 0;");
    T.due("no couple", x.spouse(1, 1), -2);
    T.due("its couple", x.spouse(0, 1), 0);
    T.due("its couple", x.spouse(2, 1), 0);
    T.due("mood 0", x.spouse(0, 0), 0);
    T.due("mood 99", x.spouse(1, 0), 99);
    T.due("an empty ROW", x.spouse(0, 2), 1);
    x.weeks(1);
    T.due("parted, its couple all the same", x.spouse(0, 1), 0);
    T.due("parted, it would say a ROW all the same", x.spouse(0, 2), 1);
  }

  // 6: "3 how many WORDS it heard so far"
  private static void wordsHeardSoFar() {
    SpouseTalk x = Tape.read(SMALL + "length = 3; bends = if place < 1 then 8 else word;");
    x.hire(0, 0);
    int[] first = {0, 0, 2, 2, 4};
    int[] second = {0, 2, 2, 4, 4};
    for (int week = 0; week < 5; week++) {
      T.due("by the first", x.spouse(0, 3), first[week]);
      T.due("by the second", x.spouse(1, 3), second[week]);
      T.due("by all", x.count(7), first[week] + second[week]);
      T.due("said by all", x.count(6), 3 * week);
      x.weeks(1);
    }
    x.undo();
    T.due("undone", x.count(7), 8);
  }

  // 7: "2 its THIRD (-2: none) .. NONE for others."
  private static void couplesAndOthers() {
    for (int t = 0; t < TEXTS.length; t++) {
      SpouseTalk x = Tape.read(TEXTS[t]);
      for (int c = 0; c < COUPLES[t]; c++) {
        for (int what = 0; what <= 5; what++) T.due("couple " + c + " " + what, x.couple(c, what), what < 2 ? 2 * c + what : what == 2 ? -2 : 0);
        for (int what : outside(6)) T.due("couple " + c + " " + what, x.couple(c, what), NONE);
        for (int third = 0; third < THIRDS[t]; third++) {
          x.hire(c, third);
          T.due("its third", x.couple(c, 2), third);
        }
        x.hire(c, NONE);
        T.due("none", x.couple(c, 2), -2);
      }
      for (int c : outside(COUPLES[t])) for (int what = -1; what <= 6; what++) T.due("couple " + c + " " + what, x.couple(c, what), NONE);
    }
  }

  // 8: "-100000 for others."
  private static void thirdsAndOthers() {
    for (int t = 0; t < TEXTS.length; t++) {
      SpouseTalk x = Tape.read(TEXTS[t]);
      for (int third = 0; third < THIRDS[t]; third++) {
        for (int what = 0; what <= 7; what++) T.due("third " + third + " " + what, x.third(third, what) >= 0, true);
        for (int what : outside(8)) T.due("third " + third + " " + what, x.third(third, what), -100000);
      }
      for (int third : outside(THIRDS[t])) for (int what = -1; what <= 8; what++) T.due("third " + third + " " + what, x.third(third, what), -100000);
    }
  }

  // 8: "6 COUPLES that hired it (bits)"
  private static void couplesThatHiredIt() {
    SpouseTalk x = Tape.read(FULL);
    for (int bits = 0; bits < 8; bits++) {
      for (int c = 0; c < 3; c++) x.hire(c, (bits >> c & 1) != 0 ? 3 : NONE);
      T.due("bits", x.third(3, 6), bits);
      T.due("not another one's", x.third(2, 6), 0);
    }
    x.hire(1, 0);
    T.due("another one's now", x.third(3, 6), 5);
    T.due("another one's now", x.third(0, 6), 2);
  }

  // 9: "(third NONE: nobody): true; false, and nothing happens: it is so, PARTED, no such ones."
  private static void hiresRefused() {
    SpouseTalk x = Tape.read(FULL);
    for (int c = 0; c < 3; c++) {
      T.due("nobody already", x.hire(c, NONE), false);
      T.due("hire", x.hire(c, 3), true);
      T.due("it is so", x.hire(c, 3), false);
      for (int third : new int[] {-2, 4, 5, MIN, MAX}) T.due("no such third", x.hire(c, third), false);
      T.due("its third as it was", x.couple(c, 2), 3);
      T.due("things done", x.count(9), 3 * c + 1);
      T.due("nobody", x.hire(c, NONE), true);
      T.due("nobody already", x.hire(c, NONE), false);
      T.due("first third", x.hire(c, 0), true);
    }
    for (int c : outside(3)) for (int third = -2; third <= 4; third++) T.due("no such couple", x.hire(c, third), false);
    T.due("nine things", x.count(9), 9);
    x = Tape.read("spouse a 1; spouse b 9; spouse c 9; spouse d 9; couple a b; couple c d; third t 1 1; third u 1 1;");
    x.weeks(1);
    String ahead = Tape.all(x);
    T.due("PARTED", x.hire(0, 0), false);
    T.due("PARTED", x.hire(0, 1), false);
    T.due("PARTED, nobody", x.hire(0, NONE), false);
    T.same("nothing happens", Tape.all(x), ahead);
    T.due("the other one", x.hire(1, 1), true);
    x.undo();
    x.undo();
    T.due("not PARTED any more", x.hire(0, 0), true);
    SpouseTalk y = Tape.read("spouse a 1; spouse b 9; couple a b;");
    T.due("no thirds at all", y.hire(0, 0), false);
    T.due("no thirds at all, nobody", y.hire(0, NONE), false);
  }

  // 10: "false, and nothing happens: it is so, no such one."
  private static void oathsRefused() {
    SpouseTalk x = Tape.read(FULL);
    for (int third = 0; third < 4; third++) {
      T.due("not sworn already", x.swear(third, false), false);
      T.due("swear", x.swear(third, true), true);
      T.due("it is so", x.swear(third, true), false);
      T.due("1 sworn", x.third(third, 3), 1);
      T.due("bits", x.count(5), (2 << third) - 1);
      T.due("things done", x.count(9), third + 1);
    }
    for (int third : outside(4)) {
      T.due("no such one", x.swear(third, true), false);
      T.due("no such one", x.swear(third, false), false);
    }
    T.due("four things", x.count(9), 4);
    T.due("not sworn", x.swear(1, false), true);
    T.due("else 0", x.third(1, 3), 0);
    T.due("bits", x.count(5), 13);
    T.due("not sworn already", x.swear(1, false), false);
    SpouseTalk y = new SpouseTalk();
    T.due("no thirds", y.swear(0, true), false);
    T.due("no thirds", y.swear(0, false), false);
  }

  // 11: "n WEEKS (0 .. 60; 0 is no thing done) go by: which it is; NONE, and nothing happens: no such n."
  private static void weeksUpTo60() {
    SpouseTalk x = Tape.read(SMALL);
    x.hire(0, 0);
    T.due("0", x.weeks(0), 0);
    T.due("no thing done", x.count(9), 1);
    String ahead = Tape.all(x);
    for (int n : new int[] {-1, -60, 61, 62, 120, MIN, MAX}) T.due("no such n " + n, x.weeks(n), NONE);
    T.same("nothing happens", Tape.all(x), ahead);
    T.due("1", x.weeks(1), 1);
    T.due("59", x.weeks(59), 60);
    T.due("60", x.weeks(60), 120);
    T.due("0 tells which", x.weeks(0), 120);
    T.due("things done", x.count(9), 4);
    T.due("each week is gone through", x.count(6), 240);
    T.due("all 60 at once", x.undo(), true);
    T.due("week", x.count(3), 60);
  }

  // 12: "The last thing done (hire, swear, weeks) is undone: true; false: there is none (the last 40 can be)."
  private static void undoTheLast40() {
    for (int done = 0; done <= 43; done++) {
      SpouseTalk x = Tape.read(SMALL);
      for (int i = 0; i < done; i++) x.weeks(1);
      int can = Math.min(40, done);
      T.due("can be undone of " + done, x.count(9), can);
      for (int i = 1; i <= can; i++) {
        T.due("undo " + i + " of " + done, x.undo(), true);
        T.due("week", x.count(3), done - i);
        T.due("left", x.count(9), can - i);
      }
      T.due("no more of " + done, x.undo(), false);
      T.due("nothing happens", x.count(3), done - can);
      T.due("nothing left", x.count(9), 0);
      T.due("silent weeks", x.couple(0, 5), done - can);
      T.due("again", x.weeks(1), done - can + 1);
      T.due("one thing", x.count(9), 1);
    }
    // Undone and done anew in turns, far beyond 40 things.
    SpouseTalk x = Tape.read(SMALL);
    for (int i = 0; i < 60; i++) {
      x.swear(0, i % 2 == 0);
      x.hire(0, i % 2 == 0 ? 0 : NONE);
      T.due("undone", x.undo(), true);
      x.hire(0, i % 2 == 0 ? 0 : NONE);
    }
    T.due("40", x.count(9), 40);
    for (int i = 0; i < 20; i++) {
      T.due("hired or not", x.couple(0, 2), i % 2 == 0 ? -2 : 0);
      x.undo();
      T.due("sworn or not", x.count(5), i % 2);
      x.undo();
    }
    T.due("none left", x.undo(), false);
  }

  // 12: what is refused, held, told or fed is no thing done
  private static void whatIsNoThingDone() {
    SpouseTalk x = Tape.read(FULL);
    x.hire(0, 1);
    x.hire(0, 1);
    x.hire(3, 1);
    x.hire(0, 4);
    x.swear(0, false);
    x.swear(4, true);
    x.weeks(0);
    x.weeks(61);
    x.weeks(-1);
    x.hold(0);
    x.hold(3);
    x.restore(1);
    x.tell(0, 8);
    x.tell(8, 8);
    x.forget();
    feedBlanks(x);
    x.back(3);
    x.then(0, 60);
    x.paid(0, 60, 0);
    x.parts(0);
    x.oaths(2, NONE);
    x.year(0, 60, 20);
    x.hires(NONE);
    T.due("one thing", x.count(9), 1);
    T.due("undone", x.undo(), true);
    T.due("hired no more", x.couple(0, 2), -2);
    T.due("held all the same", x.count(11), 1);
    T.due("the tape all the same", x.count(8), 17);
    T.due("none", x.undo(), false);
  }

  // 12: all that goes on is as it was ahead of the thing undone
  private static void undoneWhole() {
    SpouseTalk x = Tape.read(FULL + "drops = 20; fine 3;");
    String begin = Tape.all(x).replaceAll("count 9: \\d+", "");
    x.hire(0, 3);
    x.hire(1, 3);
    x.swear(3, true);
    String ahead = Tape.all(x);
    x.weeks(40);
    x.undo();
    T.same("weeks undone", Tape.all(x), ahead);
    x.undo();
    x.undo();
    x.undo();
    T.same("all undone", Tape.all(x).replaceAll("count 9: \\d+", ""), begin);
  }

  // 13: "a WORD at a place (0 .. 4) .. NONE: no such ones."
  private static void bendsRefused() {
    SpouseTalk x = Tape.read(FULL);
    for (int third : new int[] {0, 3}) {
      for (int w : new int[] {0, 7}) for (int at : new int[] {0, 4}) T.due("put", x.bends(third, w, at), (w + third) % 9);
      for (int w : outside(8)) T.due("no such word " + w, x.bends(third, w, 0), NONE);
      for (int at : outside(5)) T.due("no such place " + at, x.bends(third, 0, at), NONE);
    }
    for (int third : outside(4)) T.due("no such third " + third, x.bends(third, 0, 0), NONE);
    T.due("8 left out", x.bends(1, 7, 0), 8);
    T.due("9 is 0", x.bends(2, 7, 0), 0);
    T.due("no thirds", new SpouseTalk().bends(0, 0, 0), NONE);
  }

  // 14, 15: "NONE: no such THIRD, no ROW."
  private static void heardRefused() {
    SpouseTalk x = Tape.read(FULL);
    for (int third : outside(4)) {
      T.due("no such third", x.heard(third, 1), NONE);
      T.due("no such third", x.chain(third, 0, 1), NONE);
      T.due("no such third", x.chain(0, third, 1), NONE);
      T.due("no such third", x.chain(third, third, 1), NONE);
      T.due("no such third", x.say(third, 1), NONE);
      T.due("no such third", x.loses(third, 0, 1), NONE);
      T.due("no such third", x.loses(0, third, 1), NONE);
    }
    T.due("nothing said", x.heard(3, 1), 1);
    T.due("five words", x.heard(3, row(7, 7, 7, 7, 7)), row(1, 1, 1, 1, 1));
    T.due("nothing said", x.chain(3, 3, 1), 1);
    T.due("five words", x.chain(3, 3, row(0, 1, 2, 3, 4)), row(6, 7, 0, 1));
    T.due("left out by the first", x.chain(1, 0, row(7, 7, 7, 7, 7)), 1);
    // The second one's places are those of what it is told.
    x = Tape.read("third t 0 0; third u 0 0; bends = if which * 9 + place < 1 then 8 else if which < 1 then word else word + place;");
    T.due("places anew", x.chain(0, 1, row(5, 1, 1, 1)), row(1, 2, 3));
    T.due("the other way", x.chain(1, 0, row(5, 1, 1, 1)), row(2, 3, 4));
    T.due("the same twice", x.chain(0, 0, row(5, 1, 1, 1)), row(1, 1));
  }

  // 16: "SAY: the shortest ROW (0 .. 4 WORDS), of alike ones the least number, that is PUT as a told one." "-2: none"
  private static void sayUpToFourWords() {
    // Of each ROW the first n WORDS are left out.
    for (int n = 0; n <= 5; n++) {
      SpouseTalk x = Tape.read("third t 0 0; bends = if place < " + n + " then 8 else 7 - word;");
      T.due("nothing", x.say(0, 1), 1);
      int due = row(4);
      if (n == 1) due = row(0, 4);
      if (n == 2) due = row(0, 0, 4);
      if (n == 3) due = row(0, 0, 0, 4);
      T.due(n + " left out", x.say(0, row(3)), n <= 3 ? due : -2);
    }
    SpouseTalk x = Tape.read("third t 0 0;");
    T.due("four", x.say(0, row(7, 7, 7, 7)), row(7, 7, 7, 7));
    T.due("five", x.say(0, row(0, 0, 0, 0, 0)), -2);
    // Two WORDS are put as 1, all others are left out: the least number of the shortest ones.
    x = Tape.read("third t 0 0; bends = if word < 3 then 8 else if word < 5 then 1 else 8;");
    T.due("least number", x.say(0, row(1)), row(3));
    T.due("least number", x.say(0, row(1, 1, 1, 1)), row(3, 3, 3, 3));
    T.due("none", x.say(0, row(0)), -2);
    T.due("none", x.say(0, row(1, 1, 1, 1, 1)), -2);
    T.due("the empty one", x.say(0, 1), 1);
    // What is shorter comes first, though a longer one has lesser WORDS.
    x = Tape.read("third t 0 0; bends = if word < 7 then 8 else 2;");
    T.due("shorter first", x.say(0, row(2)), row(7));
    x = Tape.read("third t 0 0; bends = if word + place < 1 then 8 else if place < 1 then 3 else 2;");
    T.due("only at the second place", x.say(0, row(2)), row(0, 0));
    T.due("the first place alone", x.say(0, row(3)), row(1));
    // Going back: a WORD that fits at first leaves no way on.
    x = Tape.read("third t 0 0; bends = if 0 < place then word else if word < 7 then 8 else 5;");
    T.due("left out first", x.say(0, row(5)), row(7));
    T.due("left out first", x.say(0, row(4)), row(0, 4));
    T.due("then four", x.say(0, row(5, 1, 2, 3)), row(7, 1, 2, 3));
    T.due("then three", x.say(0, row(4, 5, 6)), row(0, 4, 5, 6));
    T.due("no room", x.say(0, row(4, 5, 6, 7)), -2);
    // A sworn one puts all as it is.
    x.swear(0, true);
    T.due("sworn", x.say(0, row(4)), row(4));
  }

  // 17, 21: "ALTERED .. the fewest changes of a WORD, WORDS left out, WORDS put in"
  private static void alteredByTheFewest() {
    SpouseTalk x = Tape.read("");
    int[] all = {1, row(0), row(7), row(0, 0), row(1, 2), row(2, 1), row(1, 2, 3), row(0, 1, 2, 3), row(1, 2, 3, 0), row(0, 0, 0, 0, 0), row(7, 7, 7, 7, 7), row(1, 2, 3, 4, 5), row(5, 4, 3, 2, 1), row(2, 3, 4, 5, 1)};
    int[][] due = {
      {0, 1, 1, 2, 2, 2, 3, 4, 4, 5, 5, 5, 5, 5},
      {1, 0, 1, 1, 2, 2, 3, 3, 3, 4, 5, 5, 5, 5}};
    for (int i = 0; i < due.length; i++) {
      for (int j = 0; j < all.length; j++) {
        T.due("altered " + all[i] + " " + all[j], x.altered(all[i], all[j]), due[i][j]);
        T.due("altered " + all[j] + " " + all[i], x.altered(all[j], all[i]), due[i][j]);
      }
    }
    for (int a : all) for (int b : all) T.due("altered " + a + " " + b, new SpouseTalk().altered(a, b), Model.changes(Model.row(a), Model.row(b)));
    T.due("moved", x.altered(row(1, 2, 3, 4, 5), row(2, 3, 4, 5, 1)), 2);
    T.due("turned", x.altered(row(1, 2), row(2, 1)), 2);
    T.due("put in ahead", x.altered(row(1, 2, 3), row(0, 1, 2, 3)), 1);
    T.due("left out at last", x.altered(row(1, 2, 3, 0), row(1, 2, 3)), 1);
    for (int none : new int[] {0, -1, 2, 7, 16, 65536, MIN, MAX}) {
      T.due("no ROW", x.altered(none, 1), NONE);
      T.due("no ROW", x.altered(1, none), NONE);
      T.due("no ROW", x.altered(none, none), NONE);
    }
  }

  // 17: LOSES "by two THIRDS"
  private static void losesByTwo() {
    SpouseTalk x = Tape.read("third t 0 0; third u 0 0; third v 0 0; bends = if which < 1 then word + 1 else if which < 2 then word + 8 else 8;");
    T.due("one on, one back", x.loses(0, 1, row(1, 2, 3)), 0);
    T.due("7 is left out by the first", x.loses(0, 1, row(7, 2, 3)), 1);
    T.due("0 is left out by the second", x.loses(1, 0, row(0, 2, 3)), 1);
    T.due("all left out", x.loses(2, 0, row(1, 2, 3, 4, 5)), 5);
    T.due("nothing said", x.loses(2, 2, 1), 0);
    T.due("the same twice", x.loses(0, 0, row(1, 1, 1, 1, 1)), 5);
    T.due("no ROW", x.loses(0, 0, 0), NONE);
  }

  // 18: "LEAST of all pairs (the same twice may be): of alike ones the first by the one, then the other one." "-2: there are no THIRDS; NONE: no ROW."
  private static void leastOfAllPairs() {
    SpouseTalk x = new SpouseTalk();
    T.due("no thirds", x.least(1), -2);
    T.due("no thirds", x.least(65535), -2);
    for (int none : new int[] {0, 2, 65536, MIN, MAX, -1}) T.due("no ROW, thirds or not", x.least(none), NONE);
    T.due("one third", Tape.read("third t 0 0; bends = 8;").least(row(1, 2)), 0);
    // pair: the two numbers whose chain alters least, by what each adds to 1s.
    String[] laws = {"word", "if which < 3 then 8 else word", "if which < 1 then 2 else if which < 2 then 3 else 1", "if which < 2 then word + 1 else word + which + 2", "word + 3 - which", "if which < 2 then 8 else word"};
    int[] due = {0, 33, 2, 23, 33, 22};
    for (int i = 0; i < laws.length; i++) {
      x = Tape.read("third p 0 0; third q 0 0; third r 0 0; third s 0 0; bends = " + laws[i] + ";");
      T.due("LEAST by " + laws[i], x.least(row(1)), due[i]);
      T.due("nothing said: all alike", x.least(1), 0);
    }
  }

  // 19: "of alike ones the first; -2: there are none; NONE: no ROW."
  private static void truestOfAll() {
    SpouseTalk x = new SpouseTalk();
    T.due("none", x.truest(1), -2);
    T.due("none", x.truest(65535), -2);
    for (int none : new int[] {0, 2, 65536, MIN, MAX, -1}) T.due("no ROW, thirds or not", x.truest(none), NONE);
    String[] laws = {"word", "8", "if which < 3 then 8 else word", "if which < 1 then 8 else word", "if which < 1 then 8 else if which < 2 then 0 else if place < 1 then 0 else word"};
    int[] due = {0, 0, 3, 1, 2};
    for (int i = 0; i < laws.length; i++) {
      x = Tape.read("third p 0 0; third q 0 0; third r 0 0; third s 0 0; bends = " + laws[i] + ";");
      T.due("truest by " + laws[i], x.truest(row(1, 2)), due[i]);
      T.due("nothing said: all alike", x.truest(1), 0);
    }
  }

  // 20: "How many of WORDS 0 .. 7, said at a place, a THIRD does not put as they are; NONE: no such ones."
  private static void crookedOfEight() {
    for (int n = 0; n <= 8; n++) {
      SpouseTalk x = Tape.read("third t 0 0; bends = if word < " + n + " then 8 else word;");
      T.due(n + " of 8", x.crooked(0, 0), n);
      T.due(n + " of 8", x.crooked(0, 4), n);
      T.due(n + " the others", Tape.read("third t 0 0; bends = if word < " + n + " then word else word + 1;").crooked(0, 2), 8 - n);
    }
    SpouseTalk x = Tape.read(FULL);
    T.due("0 as they are", x.crooked(0, 4), 0);
    T.due("8", x.crooked(3, 4), 8);
    for (int third : outside(4)) T.due("no such third", x.crooked(third, 0), NONE);
    for (int at : outside(5)) T.due("no such place", x.crooked(0, at), NONE);
    x = Tape.read("third t 0 0; bends = word + place;");
    int[] due = {0, 8, 8, 8, 8};
    for (int at = 0; at < 5; at++) T.due("at " + at, x.crooked(0, at), due[at]);
  }

  // 22: "NONE: no such one, no ROW."
  private static void takesRefused() {
    SpouseTalk x = Tape.read(FULL);
    for (int s = 0; s < 6; s++) T.due("nothing heard", x.takes(s, 1), 50 + s);
    for (int s = 0; s < 6; s++) T.due("five heard", x.takes(s, row(7, 7, 7, 7, 7)), 70 + s);
    for (int s : outside(6)) T.due("no such one", x.takes(s, 1), NONE);
    T.due("nothing happens", x.count(13), 50 + 51 + 52 + 53 + 54 + 55);
    T.due("nothing happens", x.count(7), 0);
    T.due("without a couple, too", Tape.read("spouse a 3; takes = 1;").takes(0, row(1)), 4);
  }

  private static String people(int couples, int thirds, String moods) {
    StringBuilder s = new StringBuilder();
    String[] mood = moods.split(" ");
    for (int i = 0; i < 2 * couples; i++) s.append("spouse ").append("abcdef".charAt(i)).append(' ').append(mood[i]).append("; ");
    for (int i = 0; i < couples; i++) s.append("couple ").append("ace".charAt(i)).append(' ').append("bdf".charAt(i)).append("; ");
    for (int i = 0; i < thirds; i++) s.append("third ").append("pqrs".charAt(i)).append(" 0 0; ");
    return s.toString();
  }

  // 23: "-2: more such COUPLES than THIRDS; NONE (looked at first): no such COUPLE."
  private static void hiresByHowManyThereAre() {
    for (int couples = 0; couples <= 3; couples++) {
      for (int thirds = 0; thirds <= 4; thirds++) {
        SpouseTalk x = Tape.read(people(couples, thirds, "50 50 50 50 50 50"));
        boolean fits = couples <= thirds;
        T.due(couples + " couples, " + thirds + " thirds", x.hires(NONE), fits ? 0 : -2);
        for (int c = 0; c < couples; c++) T.due("for couple " + c, x.hires(c), fits ? c : -2);
        for (int c : new int[] {couples, couples + 1, -2, MIN, MAX}) T.due("no such couple, looked at first", x.hires(c), NONE);
      }
    }
  }

  // 23: "another THIRD for each COUPLE not PARTED", "(-2: PARTED)"
  private static void hiresWithoutThePartedOnes() {
    for (int parted = 0; parted < 8; parted++) {
      StringBuilder moods = new StringBuilder();
      for (int i = 0; i < 6; i++) moods.append((parted >> i / 2 & 1) != 0 ? "1 " : "50 ");
      int together = 3 - Integer.bitCount(parted);
      for (int thirds = 0; thirds <= 4; thirds++) {
        SpouseTalk x = Tape.read(people(3, thirds, moods.toString()));
        x.weeks(1);
        T.due("parted", x.count(4), parted);
        boolean fits = together <= thirds;
        T.due("sum", x.hires(NONE), fits ? 0 : -2);
        int next = 0;
        for (int c = 0; c < 3; c++) {
          boolean gone = (parted >> c & 1) != 0;
          T.due("for couple " + c + " of " + parted, x.hires(c), gone || !fits ? -2 : next);
          if (!gone) next++;
        }
        T.due("no such couple", x.hires(3), NONE);
      }
    }
  }

  // 23: "of alike ones the first by the first such COUPLE's THIRD, then the next one's"
  private static void hiresOfAlikeOnes() {
    // couple c says c + 1, c + 1; a THIRD puts as the law tells.
    String people = people(3, 4, "10 10 20 20 30 30") + "length = 2; says = mood / 10; bends = ";
    String[] laws = {"word", "8", "which", "4 - which", "if which < 3 then 8 else word", "if which < 1 then 8 else word", "if which < 2 then 3 else 1"};
    int[][] due = {{0, 0, 1, 2}, {6, 0, 1, 2}, {0, 1, 2, 3}, {0, 3, 2, 1}, {4, 0, 1, 3}, {0, 1, 2, 3}, {2, 2, 0, 1}};
    for (int i = 0; i < laws.length; i++) {
      SpouseTalk x = Tape.read(people + laws[i] + ";");
      T.due("sum by " + laws[i], x.hires(NONE), due[i][0]);
      for (int c = 0; c < 3; c++) T.due("for " + c + " by " + laws[i], x.hires(c), due[i][c + 1]);
      T.due("nothing is hired", x.couple(0, 2), -2);
      // Who speaks this week: in odd weeks the other one.
      x = Tape.read(people.replace("spouse a 10", "spouse a 90").replace("spouse c 20", "spouse c 90").replace("spouse b 10", "spouse b 11").replace("spouse d 20", "spouse d 21").replace("spouse e 30", "spouse e 90").replace("spouse f 30", "spouse f 31") + laws[i] + ";");
      x.weeks(1);
      T.due("sum in an odd week by " + laws[i], x.hires(NONE), due[i][0]);
      for (int c = 0; c < 3; c++) T.due("for " + c + " in an odd week by " + laws[i], x.hires(c), due[i][c + 1]);
    }
  }

  // III: "(nothing happens, nothing is DROPPED but in WEEKS)"
  private static void nothingIsDroppedButInWeeks() {
    SpouseTalk x = Tape.read(people(1, 2, "50 9") + "length = 5; takes = 0 - 9; drops = 100;");
    x.hire(0, 1);
    int five = row(0, 1, 2, 3, 4);
    for (int w = 0; w < 8; w++) T.due("bends", x.bends(1, w, 0), w);
    T.due("heard", x.heard(1, five), five);
    T.due("chain", x.chain(0, 1, five), five);
    T.due("say", x.say(1, row(1, 2)), row(1, 2));
    T.due("loses", x.loses(1, 1, five), 0);
    T.due("least", x.least(five), 0);
    T.due("truest", x.truest(five), 0);
    T.due("crooked", x.crooked(1, 0), 0);
    T.due("takes", x.takes(1, five), 0);
    T.due("hires", x.hires(NONE), 0);
    x.tell(3, row(3));
    T.due("who", x.who(1), 3);
    T.due("in weeks: then", x.then(1, 60), 9);
    T.due("in weeks: parts", x.parts(0), -2);
    T.due("in weeks: year", x.year(0, 60, 20), 0);
    x.weeks(60);
    T.due("in weeks: said", x.count(6), 300);
    T.due("in weeks: heard", x.count(7), 0);
    SpouseTalk y = Tape.read(people(1, 2, "50 9") + "length = 5; takes = 0 - 9; drops = 0;");
    y.hire(0, 1);
    T.due("in weeks: then", y.then(1, 1), 0);
    T.due("in weeks: parts", y.parts(0), 1);
    T.due("in weeks: year", y.year(0, 1, 20), 20);
  }

  private static void nothingHappensByAsking() {
    SpouseTalk x = Tape.read(FULL + "drops = 30;");
    x.hire(0, 0);
    x.hire(1, 3);
    x.swear(3, true);
    x.weeks(4);
    x.tell(1, row(1));
    String ahead = Tape.all(x);
    int rows = row(1, 2, 3);
    x.bends(3, 1, 1);
    x.heard(3, rows);
    x.chain(3, 0, rows);
    x.say(3, rows);
    x.loses(3, 0, rows);
    x.least(rows);
    x.truest(rows);
    x.crooked(3, 1);
    x.altered(rows, 1);
    x.takes(5, rows);
    x.hires(NONE);
    x.hires(2);
    x.then(5, 60);
    x.paid(3, 60, 0);
    x.parts(2);
    x.oaths(24, NONE);
    x.oaths(24, 0);
    x.year(2, 60, 20);
    x.who(1);
    x.ask(1);
    T.same("nothing happens", Tape.all(x), ahead);
    SpouseTalk y = Tape.read(FULL + "drops = 30;");
    y.hire(0, 0);
    y.hire(1, 3);
    y.swear(3, true);
    y.weeks(4);
    y.tell(1, row(1));
    x.weeks(9);
    y.weeks(9);
    T.same("it goes on as if nothing were asked", Tape.all(x), Tape.all(y));
  }

  // 24: "IN n WEEKS (0 .. 60)"; "NONE: no such ones."
  private static void thenUpTo60() {
    SpouseTalk x = Tape.read(FULL);
    for (int s : outside(6)) T.due("no such spouse", x.then(s, 0), NONE);
    for (int n : new int[] {-1, 61, 62, MIN, MAX}) for (int s : new int[] {0, 5}) T.due("no such n " + n, x.then(s, n), NONE);
    for (int s = 0; s < 6; s++) T.due("in 0 weeks", x.then(s, 0), 50 + s);
    for (int s = 0; s < 6; s++) T.due("in 1 week", x.then(s, 1), 49 + s);
    T.due("in 49", x.then(0, 49), 1);
    T.due("in 50, parted", x.then(0, 50), 0);
    T.due("in 60, parted", x.then(1, 60), 1);
    T.due("nothing happens", x.count(3), 0);
    T.due("nothing happens", x.count(9), 0);
    x = Tape.read("spouse a 99; spouse b 99; couple a b;");
    T.due("in 59", x.then(0, 59), 40);
    T.due("in 60", x.then(0, 60), 39);
  }

  // 25: "-100000: no such ones."
  private static void paidUpTo60() {
    SpouseTalk x = Tape.read(FULL);
    x.hire(0, 3);
    for (int t : outside(4)) for (int what = 0; what <= 2; what++) T.due("no such third", x.paid(t, 0, what), -100000);
    for (int n : new int[] {-1, 61, MIN, MAX}) for (int what = 0; what <= 2; what++) T.due("no such n " + n, x.paid(3, n, what), -100000);
    for (int what : outside(3)) for (int n : new int[] {0, 60}) T.due("no such what " + what, x.paid(3, n, what), -100000);
    int[] now = {0, 40, 0};
    int[] next = {12, 43, 1};
    for (int what = 0; what <= 2; what++) T.due("in 0 weeks", x.paid(3, 0, what), now[what]);
    for (int what = 0; what <= 2; what++) T.due("in 1 week", x.paid(3, 1, what), next[what]);
    T.due("rested", x.paid(2, 6, 1), 0);
    T.due("rested", x.paid(2, 5, 1), 5);
    T.due("nothing happens", x.count(3), 0);
    int[] later = new int[6];
    for (int i = 0; i < 6; i++) later[i] = x.paid(3, 59 + i / 3, i % 3);
    x.weeks(59);
    for (int i = 0; i < 3; i++) T.due("as in 59 weeks", later[i], x.third(3, i == 0 ? 4 : i));
    x.weeks(1);
    for (int i = 0; i < 3; i++) T.due("as in 60 weeks", later[3 + i], x.third(3, i == 0 ? 4 : i));
    x = Tape.read(SMALL + "bends = 8; dares = 1; fine 99;");
    x.hire(0, 0);
    x.swear(0, true);
    T.due("below 0", x.paid(0, 60, 0), 60 * (6 - 99));
    T.due("99 at most", x.paid(0, 60, 1), 99);
  }

  // 26: "PARTS: behind how many WEEKS (0 .. 200) a COUPLE has PARTED"; "(0: it has); -2: not; NONE: no such COUPLE."
  private static void partsUpTo200() {
    for (int mood = 0; mood <= 3; mood++) T.due("silent, from " + mood, Tape.read("spouse a " + mood + "; spouse b 50; couple a b;").parts(0), Math.max(1, mood));
    T.due("99 weeks", Tape.read("spouse a 99; spouse b 99; couple a b;").parts(0), 99);
    SpouseTalk x = Tape.read("spouse a 9; spouse b 9; couple a b; third t 0 0; length = 1; takes = if week < 200 then 0 else 0 - 9;");
    x.hire(0, 0);
    T.due("201", x.parts(0), -2);
    x.weeks(1);
    T.due("200", x.parts(0), 200);
    x.weeks(1);
    T.due("199", x.parts(0), 199);
    T.due("nothing happens", x.count(3), 2);
    for (int i = 0; i < 3; i++) x.weeks(60);
    x.weeks(18);
    T.due("week 200", x.count(3), 200);
    T.due("1", x.parts(0), 1);
    x.weeks(1);
    T.due("it has", x.parts(0), 0);
    T.due("it has", x.couple(0, 3), 1);
    for (int t = 0; t < TEXTS.length; t++) {
      SpouseTalk y = Tape.read(TEXTS[t]);
      for (int c : outside(COUPLES[t])) T.due("no such couple", y.parts(c), NONE);
      for (int c = 0; c < COUPLES[t]; c++) T.due("a couple", y.parts(c), 50 + 2 * c);
    }
  }

  // 27: "OATHS for n WEEKS (1 .. 24)"; "how many (i NONE), else the i-th (bits, the least first); NONE: no such ones, not so many."
  private static void oathsUpTo24() {
    for (int t = 0; t < TEXTS.length; t++) {
      SpouseTalk x = Tape.read(TEXTS[t]);
      int all = 1 << THIRDS[t];
      for (int n : new int[] {0, -1, 25, 26, MIN, MAX}) for (int i = -1; i <= 1; i++) T.due("no such n " + n, x.oaths(n, i), NONE);
      for (int n : new int[] {1, 2, 23, 24}) {
        T.due("nobody is hired: all rest", x.oaths(n, NONE), all);
        for (int i = 0; i < all; i++) T.due("the i-th", x.oaths(n, i), i);
        for (int i : new int[] {all, all + 1, MAX, -2, -3, MIN}) T.due("not so many, no such i " + i, x.oaths(n, i), NONE);
      }
    }
  }

  // 27: "RESTS: none by itself, doing the other thing, had been paid more"
  private static void oathsThatRest() {
    // Sworn, p loses 10 a week (it dares), q nothing; r, s are hired by nobody.
    String people = people(2, 4, "50 50 50 50").replace(" 0 0;", " 1 0;");
    SpouseTalk x = Tape.read(people + "bends = if which < 1 then 8 else word; dares = 1;");
    x.hire(0, 0);
    x.hire(1, 1);
    T.due("p is not sworn", x.oaths(3, NONE), 8);
    for (int i = 0; i < 8; i++) T.due("the i-th", x.oaths(3, i), 2 * i);
    T.due("not so many", x.oaths(3, 8), NONE);
    // A FINE of 0 is no less: as much is not more.
    x = Tape.read(people + "bends = 8; dares = 1; fine 0;");
    x.hire(0, 0);
    x.hire(1, 1);
    T.due("fine 0: all rest", x.oaths(24, NONE), 16);
    x = Tape.read(people + "bends = 8; dares = 1; fine 1;");
    x.hire(0, 0);
    x.hire(1, 1);
    T.due("fine 1: neither p nor q", x.oaths(1, NONE), 4);
    for (int i = 0; i < 4; i++) T.due("the i-th", x.oaths(1, i), 4 * i);
    // How it is now makes no odds, and nothing happens.
    x.swear(0, true);
    x.swear(3, true);
    T.due("as before", x.oaths(1, NONE), 4);
    T.due("as before", x.oaths(1, 3), 12);
    T.due("nothing happens", x.count(5), 9);
    // Not sworn, t is heard otherwise from week 22 on: b parts in week 24, and nothing is paid in week 25.
    x = Tape.read("spouse a 50; spouse b 9; couple a b; third t 1 0; length = 1; bends = if week < 22 then word else 7; says = 0; takes = 0 - word;");
    x.hire(0, 0);
    T.due("up to week 23: alike", x.oaths(24, NONE), 2);
    x.weeks(1);
    T.due("up to week 24: alike", x.oaths(24, NONE), 2);
    x.weeks(1);
    T.due("up to week 24: alike", x.oaths(23, NONE), 2);
    T.due("up to week 25: sworn alone", x.oaths(24, NONE), 1);
    T.due("up to week 25: sworn alone", x.oaths(24, 0), 1);
  }

  // 27: OATHS go on from how things are now: what each THIRD loves, how TIRED it is, how often it was FINED
  private static void oathsFromNowOn() {
    String[] dares = {"if love < 5 then 0 else 1", "if tired < 2 then 0 else 1", "if fines < 1 then 1 - week else 1"};
    for (String law : dares) {
      for (int third = 0; third < 4; third++) {
        SpouseTalk x = Tape.read(people(1, 4, "50 50") + "length = 2; loves = 5 - 5 * week; bends = word + 1; dares = " + law + ";");
        x.hire(0, third);
        T.due("ahead, " + third + " by " + law, x.oaths(1, NONE), law.contains("fines") ? 8 : 16);
        x.swear(third, true);
        x.weeks(1);
        T.due("it dares, " + third + " by " + law, x.oaths(1, NONE), 8);
        for (int i = 0; i < 8; i++) T.due("without " + third, x.oaths(1, i) >> third & 1, 0);
        x.undo();
        T.due("undone, " + third + " by " + law, x.oaths(1, NONE), law.contains("fines") ? 8 : 16);
      }
    }
  }

  // 28: "YEAR by s SEEDS (1 .. 20) .. in n WEEKS (0 .. 60)"; "NONE: no such ones."
  private static void yearBySeeds() {
    for (int t = 1; t < TEXTS.length; t++) {
      SpouseTalk x = Tape.read(TEXTS[t]);
      for (int c : outside(COUPLES[t])) T.due("no such couple", x.year(c, 1, 1), NONE);
      for (int n : new int[] {-1, 61, 62, MIN, MAX}) T.due("no such n", x.year(0, n, 1), NONE);
      for (int s : new int[] {0, -1, 21, 22, MIN, MAX}) T.due("no such s", x.year(0, 1, s), NONE);
      for (int s : new int[] {1, 2, 19, 20}) {
        T.due("in 0 weeks", x.year(0, 0, s), 0);
        T.due("in 49 weeks", x.year(0, 49, s), 0);
        T.due("in 50 weeks", x.year(0, 50, s), s);
        T.due("in 60 weeks", x.year(0, 60, s), s);
      }
    }
    SpouseTalk x = Tape.read("spouse a 60; spouse b 61; couple a b;");
    T.due("in 59 weeks", x.year(0, 59, 20), 0);
    T.due("in 60 weeks", x.year(0, 60, 20), 20);
    x.weeks(60);
    T.due("it has", x.year(0, 0, 20), 20);
    // Each SEED by itself, from the text's on.
    for (int seed : new int[] {0, 1, 500, 9979, 9980, 9981, 9999}) {
      x = Tape.read("spouse a 50; spouse b 9; couple a b; third t 0 0; length = 1; says = 0; takes = 0 - 9; drops = 50; seed " + seed + ";");
      x.hire(0, 0);
      int parted = 0;
      for (int s = 1; s <= 20; s++) {
        if (Model.lot(100, seed + s - 1, 0) >= 50) parted++;
        T.due("from " + seed + " by " + s, x.year(0, 1, s), parted);
      }
      T.due("nothing happens", x.count(3), 0);
    }
  }

  // 29: "20 at most, numbered from 0 on"; "NONE, and nothing happens: 20 are there, no such ones."
  private static void tellUpTo20() {
    SpouseTalk x = Tape.read("third t 0 0;");
    for (int w : outside(8)) T.due("no such word", x.tell(w, 8), NONE);
    for (int r : new int[] {0, 2, 7, 16, 63, 64, 127, 512, 32768, 65535, 65536, -1, -8, MIN, MAX}) T.due("no such row", x.tell(0, r), NONE);
    T.due("nothing happens", x.count(10), 0);
    for (int i = 0; i < 20; i++) {
      T.due("its number", x.tell(i % 8, 8 + i % 8), i);
      T.due("TOLD ones", x.count(10), i + 1);
    }
    T.due("20 are there", x.tell(0, 8), NONE);
    T.due("20 are there", x.tell(0, 1), NONE);
    T.due("nothing happens", x.count(10), 20);
    T.due("nothing happens", x.who(20), 1);
    T.due("forgotten", x.forget(), 20);
    T.due("from 0 on", x.tell(0, 1), 0);
    T.due("left out", x.who(1), 0);
    x.forget();
    for (int r : new int[] {1, 8, 15}) T.due("a row", x.tell(7, r) >= 0, true);
    T.due("a row", x.tell(0, 15), 3);
  }

  // 30: "All that was TOLD is forgotten: how many there were."
  private static void forgetAll() {
    SpouseTalk x = Tape.read("third t 0 0;");
    for (int n : new int[] {0, 1, 19, 20}) {
      for (int i = 0; i < n; i++) x.tell(0, 15);
      T.due("how many", x.forget(), n);
      T.due("none now", x.count(10), 0);
      T.due("none now", x.forget(), 0);
      T.due("all of them", x.who(0), 1);
      T.due("no such k", x.who(1), NONE);
    }
  }

  // 31, 32: "as KNOWN by k" (the first k); "NONE: no such k"; "-2: nobody may have"
  private static void knownByK() {
    SpouseTalk x = Tape.read("third p 0 0; third q 0 0; third r 0 0; third s 0 0; bends = if word < 4 then (which + 4 - word) / 4 else if word < 5 then 8 - which / 3 * 8 else 0;");
    for (int k : new int[] {1, 2, 20, 21, -1, MIN, MAX}) {
      T.due("who: no such k", x.who(k), NONE);
      T.due("ask: no such k", x.ask(k), NONE);
    }
    T.due("all", x.who(0), 15);
    // Word w below 4 is put as 1 by those from w on, as 0 by the others.
    x.tell(1, row(1));
    x.tell(2, row(1));
    x.tell(4, 1);
    x.tell(3, row(1));
    int[] who = {15, 14, 12, 4, 0};
    int[] ask = {2, 2, 3, 0, -2};
    for (int k = 0; k <= 4; k++) {
      T.due("who by " + k, x.who(k), who[k]);
      T.due("ask by " + k, x.ask(k), ask[k]);
    }
    for (int k : new int[] {5, 6, 20, -1, MIN, MAX}) {
      T.due("who: no such k", x.who(k), NONE);
      T.due("ask: no such k", x.ask(k), NONE);
    }
    for (int i = 4; i < 20; i++) x.tell(5, row(0));
    T.due("20", x.who(20), 0);
    T.due("20", x.ask(20), -2);
    T.due("21", x.who(21), NONE);
    T.due("21", x.ask(21), NONE);
    SpouseTalk none = new SpouseTalk();
    T.due("no thirds", none.who(0), 0);
    T.due("no thirds", none.ask(0), -2);
  }

  // IV: "fewest are left, at worst; of alike ones the least"
  private static void askTheLeastOfAlikeOnes() {
    for (int w = 0; w < 8; w++) {
      // From WORD w on all tell them from one another.
      SpouseTalk x = Tape.read("third p 0 0; third q 0 0; third r 0 0; third s 0 0; bends = if word < " + w + " then 3 else which;");
      T.due("word " + w, x.ask(0), w);
      // Two and two by one WORD, three and one by the others: at worst two are fewer.
      x = Tape.read("third p 0 0; third q 0 0; third r 0 0; third s 0 0; bends = if word < " + w + " then which / 3 else if word < " + (w + 1) + " then which / 2 else which / 3;");
      T.due("two and two by " + w, x.ask(0), w);
    }
    T.due("none tells anything", Tape.read("third p 0 0; third q 0 0; bends = 8;").ask(0), 0);
    T.due("one alone", Tape.read("third p 0 0; bends = word;").ask(0), 0);
    // That it is left out tells them, too.
    T.due("left out", Tape.read("third p 0 0; third q 0 0; bends = if word < 6 then 0 else 8 * which;").ask(0), 6);
    // As things are now: sworn, q puts as it is.
    SpouseTalk x = Tape.read("third p 0 0; third q 0 0; bends = 0;");
    T.due("alike", x.ask(0), 0);
    x.swear(1, true);
    T.due("sworn", x.ask(0), 1);
    x.tell(3, row(3));
    T.due("q", x.who(1), 2);
    x.swear(1, false);
    T.due("nobody", x.who(1), 0);
  }

  // IV: "said alone (place 0)", "WORDS are 0 .. 7"
  private static void saidAlone() {
    SpouseTalk x = Tape.read("third p 0 0; third q 0 0; bends = if place < 0 then 5 else if place < 1 then which * (word / 4) else which + 2;");
    T.due("told at place 0", x.tell(7, row(1)), 0);
    T.due("q", x.who(1), 2);
    T.due("told at place 0", x.tell(7, row(3)), 1);
    T.due("nobody", x.who(2), 0);
    T.due("asked at place 0", x.ask(0), 4);
    x = Tape.read("third p 0 0; third q 0 0; bends = if word < 8 then 0 else which;");
    T.due("8 is no WORD to ask", x.ask(0), 0);
    x = Tape.read("third p 0 0; third q 0 0; bends = if word < 7 then 0 else which;");
    T.due("7 is one", x.ask(0), 7);
  }

  // 33: "held in a SLOT (0 .. 2): true; false: no such one."
  private static void slotsToHold() {
    SpouseTalk x = Tape.read(SMALL);
    for (int slot : outside(3)) {
      T.due("no such slot " + slot, x.hold(slot), false);
      T.due("no such slot " + slot, x.restore(slot), false);
    }
    T.due("none holds", x.count(11), 0);
    for (int slot = 0; slot < 3; slot++) {
      T.due("nothing held", x.restore(slot), false);
      T.due("hold", x.hold(slot), true);
      T.due("how many hold", x.count(11), slot + 1);
      x.weeks(1);
    }
    T.due("three weeks", x.count(3), 3);
    for (int slot = 0; slot < 3; slot++) {
      T.due("restore", x.restore(slot), true);
      T.due("each its own", x.count(3), slot);
      T.due("that stays there", x.count(11), 3);
    }
    x.weeks(5);
    T.due("hold over", x.hold(0), true);
    T.due("three hold", x.count(11), 3);
    x.restore(1);
    x.restore(0);
    T.due("the later one", x.count(3), 7);
  }

  // 33, 34: "All that goes on (not what is TOLD, nor the tape)"; "(that stays there; nothing can be undone then)"; "false, and nothing happens"
  private static void goesOnFromWhatIsHeld() {
    SpouseTalk x = Tape.read(FULL + "drops = 20; fine 3;");
    x.hire(0, 3);
    x.hire(2, 1);
    x.swear(3, true);
    x.weeks(7);
    x.hold(2);
    String held = Tape.all(x).replaceAll("count 9: \\d+", "").replaceAll("count 10: \\d+", "").replaceAll("count 8: \\d+", "");
    x.tell(0, 8);
    x.tell(1, 8);
    feedBlanks(x);
    x.hire(1, 0);
    x.swear(1, true);
    x.weeks(20);
    T.due("nothing held", x.restore(0), false);
    T.due("no such one", x.restore(3), false);
    T.due("nothing happens", x.count(3), 27);
    T.due("nothing happens: things done", x.count(9), 7);
    T.due("restore", x.restore(2), true);
    T.due("nothing can be undone", x.count(9), 0);
    T.due("nothing can be undone", x.undo(), false);
    T.due("TOLD stays", x.count(10), 2);
    T.due("the tape stays", x.count(8), 20);
    T.same("as held", Tape.all(x).replaceAll("count 9: \\d+", "").replaceAll("count 10: \\d+", "").replaceAll("count 8: \\d+", ""), held);
    x.weeks(1);
    T.due("one thing", x.count(9), 1);
    T.due("undone", x.undo(), true);
    T.due("as held", x.count(3), 7);
    x.restore(2);
    T.due("twice", x.count(3), 7);
  }

  // 33: a SLOT's state stands by itself: it is not undone, not gone through
  private static void slotsStandByThemselves() {
    SpouseTalk x = Tape.read(SMALL);
    x.weeks(2);
    x.hold(1);
    x.undo();
    T.due("held all the same", x.count(11), 1);
    T.due("week", x.count(3), 0);
    T.due("restore", x.restore(1), true);
    T.due("week", x.count(3), 2);
    Tape.feed(x, "fine 100;");
    x.read();
    T.due("a FAULT leaves it", x.restore(1), true);
    Tape.feed(x, "fine 99;");
    x.read();
    T.due("a text empties it", x.restore(1), false);
    T.due("a text empties it", x.count(11), 0);
  }

  // 35: "NONE for others."
  private static void countsAndOthers() {
    for (int t = 0; t < TEXTS.length; t++) {
      SpouseTalk x = Tape.read(TEXTS[t]);
      for (int what = 0; what <= 13; what++) T.due("count " + what, x.count(what) >= 0, true);
      for (int what : outside(14)) T.due("count " + what, x.count(what), NONE);
      T.due("spouses", x.count(0), SPOUSES[t]);
      T.due("couples", x.count(1), COUPLES[t]);
      T.due("thirds", x.count(2), THIRDS[t]);
    }
  }

  // 35: "4 PARTED COUPLES (bits), 5 sworn THIRDS (bits)", "13 MOOD of all"
  private static void countsOfBits() {
    SpouseTalk x = Tape.read("spouse a 3; spouse b 9; spouse c 1; spouse d 9; spouse e 9; spouse f 2;"
        + "couple a b; couple c d; couple e f; third p 0 0; third q 0 0; third r 0 0; third s 0 0;");
    int[] bits = {0, 2, 6, 7, 7};
    int[] moods = {33, 27, 23, 21, 21};
    for (int week = 0; week < 5; week++) {
      T.due("parted in week " + week, x.count(4), bits[week]);
      T.due("moods in week " + week, x.count(13), moods[week]);
      x.weeks(1);
    }
    for (int set = 0; set < 16; set++) {
      for (int i = 0; i < 4; i++) x.swear(i, (set >> i & 1) != 0);
      T.due("sworn", x.count(5), set);
    }
    x = Tape.read("spouse a 99; spouse b 99; spouse c 99; spouse d 99; spouse e 99; spouse f 99;");
    T.due("moods of those without a couple, too", x.count(13), 594);
  }

  public static void main(String[] args) {
    newObject();
    twentyBytes();
    feedUpTo2000();
    backWithinTheTape();
    readEmptiesTheTape();
    placeOfTheLatestRead();
    spousesAndOthers();
    wordsHeardSoFar();
    couplesAndOthers();
    thirdsAndOthers();
    couplesThatHiredIt();
    hiresRefused();
    oathsRefused();
    weeksUpTo60();
    undoTheLast40();
    whatIsNoThingDone();
    undoneWhole();
    bendsRefused();
    heardRefused();
    sayUpToFourWords();
    alteredByTheFewest();
    losesByTwo();
    leastOfAllPairs();
    truestOfAll();
    crookedOfEight();
    takesRefused();
    hiresByHowManyThereAre();
    hiresWithoutThePartedOnes();
    hiresOfAlikeOnes();
    nothingIsDroppedButInWeeks();
    nothingHappensByAsking();
    thenUpTo60();
    paidUpTo60();
    partsUpTo200();
    oathsUpTo24();
    oathsThatRest();
    oathsFromNowOn();
    yearBySeeds();
    tellUpTo20();
    forgetAll();
    knownByK();
    askTheLeastOfAlikeOnes();
    saidAlone();
    slotsToHold();
    goesOnFromWhatIsHeld();
    slotsStandByThemselves();
    countsAndOthers();
    countsOfBits();
    T.end();
  }
}
