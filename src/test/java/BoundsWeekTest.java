/**
 * The sentences of the document's part II (LAWS, what is said, PUT, HEARD, a WEEK) that name a
 * boundary case, one method each: at the bound, just inside it and just outside it.
 */
public final class BoundsWeekTest {
  private static final Tape T = new Tape();
  // 2^31 - 1 and -2^31 as a LAW tells them.
  private static final String MOST = "(8192 * 8192 * 32 - 1)";
  private static final String LEAST = "(8192 * 8192 * 32)";

  private static int row(int... words) {
    return Tape.row(words);
  }

  /** What an E tells, seen by a LAW that looks whether it is less or more than a value. */
  private static void tells(String e, int value) {
    String told = value == Integer.MIN_VALUE ? LEAST : value < 0 ? "(0 - " + told(-value) + ")" : told(value);
    SpouseTalk x = Tape.read("spouse a 50; length = 1; says = if " + e + " < " + told + " then 1 else if " + told + " < " + e + " then 2 else 3;");
    T.due(e + " is " + value, x.spouse(0, 2), row(3));
  }

  private static String told(int value) {
    return value <= 9999 ? "" + value : "(" + told(value / 5000) + " * 5000 + " + value % 5000 + ")";
  }

  // "the E of the first if that holds (one less than the other), else the last one"
  private static void theFirstIfThatHolds() {
    String text = "spouse a 50; length = 1; says = ";
    T.due("less", Tape.read(text + "if 4 < 5 then 1 else 2;").spouse(0, 2), row(1));
    T.due("alike", Tape.read(text + "if 5 < 5 then 1 else 2;").spouse(0, 2), row(2));
    T.due("more", Tape.read(text + "if 6 < 5 then 1 else 2;").spouse(0, 2), row(2));
    T.due("below 0", Tape.read(text + "if 0 - 1 < 0 then 1 else 2;").spouse(0, 2), row(1));
    T.due("least and most", Tape.read(text + "if " + LEAST + " < " + MOST + " then 1 else 2;").spouse(0, 2), row(1));
    T.due("most and least", Tape.read(text + "if " + MOST + " < " + LEAST + " then 1 else 2;").spouse(0, 2), row(2));
    for (int holds = 0; holds < 16; holds++) {
      StringBuilder law = new StringBuilder();
      int due = 5;
      for (int i = 3; i >= 0; i--) if ((holds >> i & 1) != 0) due = i + 1;
      for (int i = 0; i < 4; i++) law.append("if ").append((holds >> i & 1) != 0 ? "1 < 2" : "2 < 2").append(" then ").append(i + 1).append(" else ");
      T.due("which hold: " + holds, Tape.read(text + law + "5;").spouse(0, 2), row(due));
    }
  }

  // "ints of 32 bits that wrap"
  private static void intsThatWrap() {
    tells(MOST, Integer.MAX_VALUE);
    tells(LEAST, Integer.MIN_VALUE);
    tells(MOST + " + 1", Integer.MIN_VALUE);
    tells(MOST + " + 0", Integer.MAX_VALUE);
    tells(LEAST + " - 1", Integer.MAX_VALUE);
    tells(LEAST + " - 0", Integer.MIN_VALUE);
    tells(MOST + " * 2", -2);
    tells(LEAST + " * 2", 0);
    tells("(0 - 1) * " + LEAST, Integer.MIN_VALUE);
    tells("0 - " + LEAST, Integer.MIN_VALUE);
    tells("0 - " + MOST, -Integer.MAX_VALUE);
    tells(MOST + " * " + MOST, 1);
    tells("9999 * 9999 * 9999", 9999 * 9999 * 9999);
  }

  // "/ rounded towards 0"
  private static void roundedTowardsZero() {
    int[] values = {0, 1, 2, 3, 5, 6, 7, 8, 9};
    for (int a : values) {
      for (int b : new int[] {1, 2, 3, 7}) {
        tells(a + " / " + b, a / b);
        tells("(0 - " + a + ") / " + b, -(a / b));
        tells(a + " / (0 - " + b + ")", -(a / b));
        tells("(0 - " + a + ") / (0 - " + b + ")", a / b);
      }
    }
    tells(LEAST + " / (0 - 1)", Integer.MIN_VALUE);
    tells(LEAST + " / 1", Integer.MIN_VALUE);
    tells(LEAST + " / 2", -1073741824);
    tells(MOST + " / (0 - 1)", -Integer.MAX_VALUE);
    tells(MOST + " / " + LEAST, 0);
    tells(LEAST + " / " + LEAST, 1);
    tells("8 / 4 / 2", 1);
    tells("7 / 2 * 2", 6);
    tells("9 - 5 - 3", 1);
    tells("2 + 3 * 4", 14);
    tells("(2 + 3) * 4", 20);
  }

  // "a LAW in which something that is looked at is divided by 0 is 0"
  private static void dividedByZero() {
    String[] zeros = {"5 / 0", "0 / 0", "5 / (3 - 3)", "1 + 5 / week", "9 * (4 + 5 / 0)", "0 * (5 / 0)", LEAST + " / 0", "5 / (0 / 1)", "(5 / 0) / 0", "5 / 0 + 3", "3 / 0 * 0 + 7", "7 - 5 / 0"};
    for (String zero : zeros) {
      word(zero, 0);
      word("if " + zero + " < 1 then 4 else 5", 0);
      word("if 0 - 1 < " + zero + " then 4 else 5", 0);
      word("if 1 < 2 then " + zero + " else 5", 0);
      word("if 2 < 1 then 5 else " + zero, 0);
      word("if 2 < 1 then 5 else if " + zero + " < 1 then 4 else 6", 0);
      // What is not looked at does no harm.
      word("if 2 < 1 then " + zero + " else 5", 5);
      word("if 1 < 2 then 5 else " + zero, 5);
      word("if 1 < 2 then 5 else if " + zero + " < 1 then 4 else 6", 5);
      word("if 2 < 1 then 5 else if 1 < 2 then 4 else if 1 < " + zero + " then " + zero + " else " + zero, 4);
    }
    word("5 / 1", 5);
    word("0 / 5 + 6", 6);
    // The other LAWS, too: each would tell more than 0 otherwise.
    String bad = " = 3 + 1 / (2 - 2);";
    SpouseTalk x = Tape.read("spouse a 50; spouse b 50; couple a b; third t 1 1; length" + bad + " bends" + bad + " takes" + bad + " dares" + bad);
    T.due("LENGTH", x.spouse(0, 2), 1);
    T.due("BENDS", x.bends(0, 5, 0), 0);
    T.due("TAKES", x.takes(0, row(1)), 50);
    T.due("DARES", x.third(0, 7), 0);
    x = Tape.read("spouse a 50; spouse b 50; couple a b; third t 1 1; drops = 100 + 1 / (2 - 2); loves" + bad);
    x.hire(0, 0);
    x.weeks(1);
    T.due("DROPS", x.count(7), 2);
    T.due("LOVES", x.third(0, 2), 0);
  }

  private static void word(String law, int due) {
    T.due("says = " + law, Tape.read("spouse a 50; length = 1; says = " + law + ";").spouse(0, 2), row(due));
  }

  private static final String[] VARS = {"word", "place", "mood", "tired", "love", "which", "week", "price", "fines"};

  /**
   * Two weeks behind a text in which all that a LAW may ask has a number of its own, and the third
   * week open: f (5) speaks, e (4) hears, COUPLE 1 has THIRD 3, which is tired 28, loves 12, was FINED once.
   */
  private static SpouseTalk inTheThirdWeek(String law, String var, int value, String hit) {
    String[][] laws = {{"length", "4"}, {"says", "place + 1"}, {"bends", "word"}, {"drops", "0"}, {"takes", "0"}, {"loves", "6"}, {"dares", "1"}};
    StringBuilder text = new StringBuilder("spouse a 40; spouse b 41; spouse c 42; spouse d 43; spouse e 60; spouse f 70; couple a b; couple f e;"
        + "third p 1 1; third q 1 1; third r 1 1; third s 5 20; ");
    for (String[] one : laws) {
      String first = one[0].equals("bends") ? "word + 1 - week" : one[1];
      text.append(one[0]).append(" = if week < 2 then ").append(first).append(" else ");
      if (one[0].equals(law)) text.append("if ").append(var).append(" < ").append(value).append(" then 0 else if ").append(value).append(" < ").append(var).append(" then 0 else ").append(hit);
      else text.append(one[1]);
      text.append("; ");
    }
    SpouseTalk x = Tape.read(text.toString());
    x.hire(1, 3);
    x.swear(3, true);
    x.weeks(2);
    T.due("tired", x.third(3, 1), 28);
    T.due("love", x.third(3, 2), 12);
    T.due("fined", x.third(3, 5), 1);
    T.due("moods", x.spouse(5, 0) * 100 + x.spouse(4, 0), 7060);
    return x;
  }

  // "what is not told here is 0 for it; week for all": each VAR in each LAW
  private static void whatIsNotToldIsZero() {
    //                 word place mood tired love which week price fines
    int[] length = {0, 0, 70, 0, 0, 5, 2, 0, 0};
    int[] says = {0, 3, 70, 0, 0, 5, 2, 0, 0};
    int[] bends = {6, 2, 0, 28, 12, 3, 2, 5, 0};
    int[] drops = {0, 0, 0, 28, 12, 3, 2, 0, 0};
    int[] takes = {5, 1, 60, 0, 0, 4, 2, 0, 0};
    int[] loves = {0, 0, 70, 28, 12, 1, 2, 0, 0};
    int[] dares = {0, 0, 0, 28, 12, 3, 2, 0, 1};
    for (int i = 0; i < VARS.length; i++) {
      // The VAR is what is due, and not 1 more.
      for (int off = 0; off <= 1; off++) {
        String v = VARS[i];
        boolean hit = off == 0;
        T.due("LENGTH by " + v, inTheThirdWeek("length", v, length[i] + off, "1").spouse(5, 2), hit ? row(1) : 1);
        T.due("SAYS by " + v, inTheThirdWeek("says", v, says[i] + off, "7").spouse(5, 2) % 8, hit ? 7 : 0);
        T.due("BENDS by " + v, inTheThirdWeek("bends", v, bends[i] + off, "5").bends(3, 6, 2), hit ? 5 : 0);
        SpouseTalk x = inTheThirdWeek("drops", v, drops[i] + off, "100");
        int heard = x.count(7);
        x.weeks(1);
        T.due("DROPS by " + v, x.count(7), heard + (hit ? 0 : 4));
        x = inTheThirdWeek("loves", v, loves[i] + off, "3");
        x.weeks(1);
        T.due("LOVES by " + v, x.third(3, 2), hit ? 15 : 12);
        T.due("DARES by " + v, inTheThirdWeek("dares", v, dares[i] + off, "1").third(3, 7), hit ? 1 : 0);
      }
      takesBy(VARS[i], takes[i]);
    }
  }

  private static void takesBy(String v, int value) {
    // Two WORDS, 2 and 5, are heard at places 0 and 1; what is the same for both is hit twice.
    boolean bothAlike = v.equals("which") || v.equals("week") || value == 0;
    T.due("TAKES by " + v, inTheThirdWeek("takes", v, value, "4").takes(4, row(2, 5)), 60 + (bothAlike ? 8 : 4));
    T.due("TAKES by " + v, inTheThirdWeek("takes", v, value + 1, "4").takes(4, row(2, 5)), 60);
  }

  // "as many WORDS as LENGTH tells .., held to 0 .. 5"
  private static void lengthHeldToFive() {
    String[] laws = {LEAST, "0 - 9", "0 - 1", "0", "1", "2", "3", "4", "5", "6", "7", "9999", MOST};
    int[] sizes = {0, 0, 0, 0, 1, 2, 3, 4, 5, 5, 5, 5, 5};
    for (int i = 0; i < laws.length; i++) {
      SpouseTalk x = Tape.read("spouse a 50; spouse b 50; couple a b; third t 1 0; says = 0; length = " + laws[i] + ";");
      T.due("LENGTH " + laws[i], x.spouse(0, 2), 1 << 3 * sizes[i]);
      x.hire(0, 0);
      x.weeks(1);
      T.due("said", x.count(6), sizes[i]);
      T.due("paid", x.third(0, 4), sizes[i]);
    }
  }

  // "the i-th of them the rest by 8 (below 0: 0) of what SAYS tells (place: i, from 0 on; ..)"
  private static void saysByTheRestOfEight() {
    String[] laws = {LEAST, "0 - 17", "0 - 9", "0 - 8", "0 - 7", "0 - 1", "0", "1", "6", "7", "8", "9", "15", "16", "9999", MOST};
    int[] words = {0, 0, 0, 0, 0, 0, 0, 1, 6, 7, 0, 1, 7, 0, 7, 7};
    for (int i = 0; i < laws.length; i++) word(laws[i], words[i]);
    T.due("places from 0 on", Tape.read("spouse a 50; length = 5; says = place;").spouse(0, 2), row(0, 1, 2, 3, 4));
    T.due("places from 0 on", Tape.read("spouse a 50; length = 5; says = place + 5;").spouse(0, 2), row(5, 6, 7, 0, 1));
    T.due("places from 0 on", Tape.read("spouse a 50; length = 5; says = place - 2;").spouse(0, 2), row(0, 0, 0, 1, 2));
  }

  // "what BENDS tells by its rest by 9 (below 0: 0): 0 .. 7 that WORD, 8: it is left out"
  private static void bendsByTheRestOfNine() {
    String[] laws = {LEAST, "0 - 18", "0 - 10", "0 - 9", "0 - 8", "0 - 1", "0", "1", "7", "8", "9", "10", "16", "17", "18", "9999", MOST};
    int[] puts = {0, 0, 0, 0, 0, 0, 0, 1, 7, 8, 0, 1, 7, 8, 0, 0, 1};
    for (int i = 0; i < laws.length; i++) {
      SpouseTalk x = Tape.read("spouse a 50; spouse b 50; couple a b; third t 1 0; length = 1; says = 3; bends = " + laws[i] + ";");
      T.due("BENDS " + laws[i], x.bends(0, 3, 0), puts[i]);
      T.due("HEARD " + laws[i], x.heard(0, row(3)), puts[i] == 8 ? 1 : row(puts[i]));
      x.hire(0, 0);
      x.weeks(1);
      T.due("heard in a week", x.spouse(1, 3), puts[i] == 8 ? 0 : 1);
    }
    SpouseTalk x = Tape.read("third t 1 0; bends = if word < 1 then 8 else word + place;");
    T.due("places are those of what is said", x.heard(0, row(0, 1, 0, 1, 2)), row(2, 4, 6));
    T.due("all left out", x.heard(0, row(0, 0, 0, 0, 0)), 1);
  }

  // "if it is sworn and DARES tells no more than 0 .., it is put as it is; else what BENDS tells"
  private static void daresNoMoreThanZero() {
    String[] laws = {LEAST, "0 - 1", "0", "1", "2", MOST};
    for (int i = 0; i < laws.length; i++) {
      SpouseTalk x = Tape.read("spouse a 50; spouse b 50; couple a b; third t 1 0; length = 1; says = 3; bends = word + 1; takes = word; dares = " + laws[i] + ";");
      boolean dares = i >= 3;
      T.due("DARES " + laws[i], x.third(0, 7), dares ? 1 : 0);
      T.due("not sworn", x.bends(0, 3, 0), 4);
      x.swear(0, true);
      T.due("sworn, DARES " + laws[i], x.bends(0, 3, 0), dares ? 4 : 3);
      T.due("sworn, DARES " + laws[i], x.heard(0, row(3, 7)), dares ? row(4) : row(3, 7));
      x.hire(0, 0);
      x.weeks(1);
      T.due("in a week", x.spouse(1, 0), dares ? 54 : 53);
      T.due("fined", x.third(0, 5), dares ? 1 : 0);
      x.swear(0, false);
      T.due("sworn no more", x.bends(0, 3, 0), 4);
    }
  }

  private static int seedOfLot(int lot, int which) {
    for (int seed = 0; seed <= 9999; seed++) if (Model.lot(100, seed, which) == lot) return seed;
    throw new IllegalStateException("no seed of lot " + lot);
  }

  private static boolean isDropped(int seed, String drops, boolean sworn) {
    SpouseTalk x = Tape.read("spouse a 50; spouse b 50; spouse c 50; spouse d 50; couple a b; couple c d; third t 1 0; third u 1 0; third v 1 0; length = 1; says = 3; seed " + seed + "; drops = " + drops + ";");
    x.hire(1, 2);
    x.swear(2, sworn);
    x.weeks(1);
    T.due("fined if sworn and dropped", x.third(2, 5), sworn && x.count(7) == 0 ? 1 : 0);
    return x.count(7) == 0;
  }

  // "DROPPED, too, if LOT 100 .. is less than DROPS .., held to 0 .. 100"
  private static void dropsHeldToHundred() {
    int which = 64 * 2 + 8;
    for (boolean sworn : new boolean[] {false, true}) {
      for (int lot : new int[] {0, 1, 49, 50, 98, 99}) {
        int seed = seedOfLot(lot, which);
        if (lot > 0) T.due("lot " + lot + ", 1 less", isDropped(seed, "" + (lot - 1), sworn), false);
        T.due("lot " + lot + ", as much", isDropped(seed, "" + lot, sworn), false);
        T.due("lot " + lot + ", 1 more", isDropped(seed, "" + (lot + 1), sworn), true);
        T.due("lot " + lot + ", below 0", isDropped(seed, "0 - 1", sworn), false);
        T.due("lot " + lot + ", least", isDropped(seed, LEAST, sworn), false);
        T.due("lot " + lot + ", 100", isDropped(seed, "100", sworn), true);
        T.due("lot " + lot + ", 101", isDropped(seed, "101", sworn), true);
        T.due("lot " + lot + ", most", isDropped(seed, MOST, sworn), true);
      }
    }
  }

  // "LOT 100 of the SEED and 256 * the week and 64 * the THIRD's number and 8 * the COUPLE's and its place"
  private static void lotsOfEachPlace() {
    // A WORD is heard with the MOOD that tells its place in what is said; one WORD is left out by BENDS ahead of the others.
    String text = "spouse a 1; spouse b 1; spouse c 1; spouse d 1; spouse e 50; spouse f 50; couple a b; couple c d; couple e f; third p 1 1; third q 1 1; third r 1 1; third s 1 1;"
        + "length = 5; says = place; drops = 40; bends = if place < 1 then 8 else word; takes = if word < 2 then 1 else if word < 3 then 2 else if word < 4 then 4 else 8; seed ";
    for (int seed : new int[] {0, 1, 2, 77, 9998, 9999}) {
      SpouseTalk x = Tape.read(text + seed + ";");
      x.hire(2, 3);
      for (int week = 0; week < 4; week++) {
        int hearer = week % 2 == 0 ? 5 : 4;
        int due = x.spouse(hearer, 0);
        for (int i = 1; i < 5; i++) if (Model.lot(100, seed, 256 * week + 64 * 3 + 8 * 2 + i) >= 40) due += 1 << i - 1;
        x.weeks(1);
        T.due("seed " + seed + ", week " + week, x.spouse(hearer, 0), Math.min(99, due));
      }
    }
  }

  // "TAKES .., held to -9 .. 9; MOOD is held to 0 .. 99"
  private static void takesHeldToNine() {
    String[] laws = {LEAST, "0 - 99", "0 - 10", "0 - 9", "0 - 8", "0 - 1", "0", "1", "8", "9", "10", "99", MOST};
    int[] steps = {-9, -9, -9, -9, -8, -1, 0, 1, 8, 9, 9, 9, 9};
    for (int i = 0; i < laws.length; i++) {
      SpouseTalk x = Tape.read("spouse a 50; spouse b 50; couple a b; third t 1 0; length = 2; takes = " + laws[i] + ";");
      T.due("TAKES " + laws[i], x.takes(0, row(1)), 50 + steps[i]);
      T.due("TAKES " + laws[i] + " five times", x.takes(0, row(1, 1, 1, 1, 1)), Math.max(0, Math.min(99, 50 + 5 * steps[i])));
      x.hire(0, 0);
      x.weeks(1);
      T.due("in a week", x.spouse(1, 0), 50 + 2 * steps[i]);
    }
  }

  private static void moodHeldToNinetyNine() {
    for (int mood : new int[] {0, 1, 8, 9, 10, 89, 90, 91, 98, 99}) {
      SpouseTalk up = Tape.read("spouse a " + mood + "; takes = 9;");
      T.due(mood + " and 9", up.takes(0, row(1)), Math.min(99, mood + 9));
      SpouseTalk down = Tape.read("spouse a " + mood + "; takes = 0 - 9;");
      T.due(mood + " less 9", down.takes(0, row(1)), Math.max(0, mood - 9));
    }
    // Held WORD by WORD, not only at the end.
    T.due("up, then down", Tape.read("spouse a 95; takes = if place < 1 then 9 else 0 - 9;").takes(0, row(1, 1)), 90);
    T.due("down, then up", Tape.read("spouse a 5; takes = if place < 1 then 0 - 9 else 9;").takes(0, row(1, 1)), 9);
    T.due("mood as it is then", Tape.read("spouse a 50; takes = if mood < 51 then 1 else 0 - 7;").takes(0, row(1, 1, 1)), 45);
    T.due("place in what is heard", Tape.read("spouse a 50; takes = place + 1;").takes(0, row(7, 7, 7, 7, 7)), 65);
  }

  // "the first of them speaks in even weeks, the other one in odd ones"
  private static void whoSpeaksInWhichWeek() {
    SpouseTalk x = Tape.read("spouse a 50; spouse b 50; couple b a; third t 1 0; length = which + 2;");
    x.hire(0, 0);
    int[] said = {0, 3, 5, 8, 10, 13};
    for (int week = 0; week < 5; week++) {
      T.due("week " + week, x.count(6), said[week]);
      T.due("heard by a", x.spouse(0, 3), (week + 1) / 2 * 3);
      T.due("heard by b", x.spouse(1, 3), week / 2 * 2);
      x.weeks(1);
    }
  }

  private static SpouseTalk oneTalk(String third, String laws) {
    SpouseTalk x = Tape.read("spouse a 50; spouse b 50; couple a b; third " + third + "; " + laws);
    x.hire(0, 0);
    x.weeks(1);
    return x;
  }

  // "the THIRD is 1 more TIRED for each WORD said (99 at most)"
  private static void tiredNinetyNineAtMost() {
    for (int tired : new int[] {0, 1, 93, 94, 95, 96, 97, 98, 99}) {
      for (int size = 0; size <= 5; size++) {
        T.due(tired + " and " + size, oneTalk("t 1 " + tired, "length = " + size + ";").third(0, 1), Math.min(99, tired + size));
      }
    }
    T.due("for each said, heard or not", oneTalk("t 1 10", "length = 5; bends = 8;").third(0, 1), 15);
    T.due("for each said, dropped or not", oneTalk("t 1 10", "length = 5; drops = 100;").third(0, 1), 15);
  }

  // "the COUPLE pays PRICE for each WORD said .. it has been PAID as much"
  private static void paidForEachWordSaid() {
    for (int price : new int[] {0, 1, 9}) {
      for (int size : new int[] {0, 1, 5}) {
        SpouseTalk x = oneTalk("t " + price + " 0", "length = " + size + "; bends = 8;");
        T.due("the couple pays", x.couple(0, 4), price * size);
        T.due("the third is paid", x.third(0, 4), price * size);
      }
    }
  }

  // "LOVE of it what LOVES tells more .., held to 0 .. 9 (99 at most)"
  private static void lovesHeldToNine() {
    String[] laws = {LEAST, "0 - 1", "0", "1", "8", "9", "10", "99", MOST};
    int[] more = {0, 0, 0, 1, 8, 9, 9, 9, 9};
    for (int i = 0; i < laws.length; i++) T.due("LOVES " + laws[i], oneTalk("t 1 0", "loves = " + laws[i] + ";").third(0, 2), more[i]);
    // 98, 99, 100 would be reached by the last step.
    for (int last = 7; last <= 9; last++) {
      SpouseTalk x = Tape.read("spouse a 50; spouse b 50; couple a b; third t 1 0; loves = if love < 90 then 9 else " + last + ";");
      x.hire(0, 0);
      x.weeks(10);
      T.due("90 in ten weeks", x.third(0, 2), 90);
      x.weeks(1);
      T.due("90 and " + last, x.third(0, 2), 90 + last);
      x.weeks(1);
      T.due("99 at most", x.third(0, 2), 99);
      x.weeks(1);
      T.due("99 at most", x.third(0, 2), 99);
    }
  }

  // "a sworn one by which what is HEARD is not what was said is FINED: it has been PAID FINE less (that may be below 0)"
  private static void finedIfItIsNotWhatWasSaid() {
    fined("bends = word;", 0);
    fined("bends = word + 9;", 0);
    fined("bends = 8;", 1);
    fined("bends = word + 1;", 1);
    fined("bends = if place < 4 then word else 8;", 1);
    fined("bends = if place < 4 then word else 0;", 1);
    fined("drops = 100;", 1);
    fined("length = 0; bends = 8;", 0);
    // Of alike WORDS one less is not what was said; all changed into the same is.
    fined("says = 3; bends = if place < 1 then 8 else word;", 1);
    fined("says = 3; bends = 3;", 0);
    SpouseTalk x = Tape.read("spouse a 50; spouse b 50; couple a b; third t 1 0; bends = 8; dares = 1; fine 99;");
    x.hire(0, 0);
    x.weeks(1);
    T.due("not sworn, not fined", x.third(0, 4), 2);
    x.swear(0, true);
    x.weeks(1);
    T.due("below 0", x.third(0, 4), 4 - 99);
    x.weeks(60);
    T.due("far below 0", x.third(0, 4), 124 - 99 * 61);
    T.due("the couple pays no less", x.couple(0, 4), 124);
    T.due("fines", x.count(12), 61);
  }

  private static void fined(String laws, int times) {
    SpouseTalk x = Tape.read("spouse a 50; spouse b 50; couple a b; third t 1 0; length = 5; dares = 1; fine 30; " + laws);
    x.hire(0, 0);
    x.swear(0, true);
    x.weeks(1);
    T.due("fined by " + laws, x.third(0, 5), times);
    T.due("fines by " + laws, x.count(12), times);
    T.due("paid by " + laws, x.third(0, 4), x.count(6) - 30 * times);
  }

  // "LAWS of a COUPLE's talk are asked by how all was ahead of it, but MOOD as told."
  private static void askedByHowAllWasAhead() {
    // tired and love grow by the talk, fines by it too: LOVES and DARES see them as they were ahead.
    SpouseTalk x = Tape.read("spouse a 50; spouse b 50; spouse c 50; spouse d 50; couple a b; couple c d; third t 1 10; length = 4; says = 1; loves = if tired < 11 then 2 else if love < 3 then 5 else 9;"
        + "bends = if tired < 14 then word else word + 1; dares = 1; takes = word;");
    x.hire(0, 0);
    x.hire(1, 0);
    x.swear(0, true);
    x.weeks(1);
    T.due("first couple: put by tired 10", x.spouse(1, 0), 54);
    T.due("second couple: put by tired 14", x.spouse(3, 0), 58);
    T.due("love: 2 by tired 10, 5 by love 2", x.third(0, 2), 7);
    T.due("fined for the second talk alone", x.third(0, 5), 1);
    x = Tape.read("spouse a 50; spouse b 50; spouse c 50; spouse d 50; couple a b; couple c d; third t 1 10; bends = word + 1; dares = 1 - fines;");
    x.hire(0, 0);
    x.hire(1, 0);
    x.swear(0, true);
    x.weeks(1);
    T.due("fined by the first talk, it dares no more in the second", x.third(0, 5), 1);
    // The mood of who spoke, as it spoke, and the mood of who hears as it is then.
    x = Tape.read("spouse a 20; spouse b 90; couple a b; third t 1 10; loves = mood / 10; takes = 0 - 9;");
    x.hire(0, 0);
    x.weeks(1);
    T.due("a spoke with mood 20", x.third(0, 2), 2);
    x.weeks(1);
    T.due("b spoke with mood 72", x.third(0, 2), 9);
  }

  // "A COUPLE without a THIRD is silent: MOOD of both is 1 less (0 at least)."
  private static void silentOnes() {
    for (int mood : new int[] {0, 1, 2, 50, 99}) {
      SpouseTalk x = Tape.read("spouse a " + mood + "; spouse b 99; couple a b; spouse c 7; third t 1 0;");
      x.weeks(1);
      T.due("1 less of " + mood, x.spouse(0, 0), Math.max(0, mood - 1));
      T.due("of both", x.spouse(1, 0), 98);
      T.due("who has no couple stays", x.spouse(2, 0), 7);
      T.due("silent", x.couple(0, 5), 1);
      T.due("nothing said", x.count(6), 0);
      T.due("nothing paid", x.couple(0, 4), 0);
    }
    SpouseTalk x = Tape.read("spouse a 0; spouse b 0; couple a b;");
    x.weeks(1);
    T.due("0 at least", x.count(13), 0);
    x = Tape.read("spouse a 50; spouse b 50; couple a b; third t 1 0;");
    x.hire(0, 0);
    x.weeks(3);
    T.due("not silent", x.couple(0, 5), 0);
    x.hire(0, SpouseTalk.NONE);
    x.weeks(2);
    T.due("silent again", x.couple(0, 5), 2);
    T.due("moods", x.count(13), 96);
  }

  // "A COUPLE of which one's MOOD is 0 behind that has PARTED, and has a THIRD no more."
  private static void partedByMoodZero() {
    for (int mood = 0; mood <= 3; mood++) {
      parted("spouse a " + mood + "; spouse b 50; couple a b;", false, mood <= 1);
      parted("spouse a 50; spouse b " + mood + "; couple a b;", false, mood <= 1);
      // With a THIRD, who speaks keeps its MOOD and who hears takes 1 less a WORD, two WORDS.
      parted("spouse a " + mood + "; spouse b 50; couple a b; third t 1 0; takes = 0 - 1;", true, mood == 0);
      parted("spouse a 50; spouse b " + mood + "; couple a b; third t 1 0; takes = 0 - 1;", true, mood <= 2);
      parted("spouse a 50; spouse b " + mood + "; couple a b; third t 1 0; takes = 1;", true, false);
    }
  }

  private static void parted(String text, boolean hired, boolean due) {
    SpouseTalk x = Tape.read(text);
    if (hired) x.hire(0, 0);
    T.due("not ahead of a week: " + text, x.couple(0, 3), 0);
    x.weeks(1);
    T.due("parted: " + text, x.couple(0, 3), due ? 1 : 0);
    T.due("third: " + text, x.couple(0, 2), hired && !due ? 0 : -2);
    T.due("parted ones: " + text, x.count(4), due ? 1 : 0);
    if (hired) T.due("hired by: " + text, x.third(0, 6), due ? 0 : 1);
    if (!due) return;
    String ahead = x.count(13) + " " + x.count(6) + " " + x.couple(0, 5) + " " + x.couple(0, 4);
    x.weeks(3);
    T.same("nothing more: " + text, x.count(13) + " " + x.count(6) + " " + x.couple(0, 5) + " " + x.couple(0, 4), ahead);
    T.due("for good: " + text, x.couple(0, 3), 1);
  }

  // "and has a THIRD no more": each COUPLE alone, all of them with a THIRD of their own
  private static void partedOnesHaveNoThird() {
    for (int c = 0; c < 3; c++) {
      StringBuilder text = new StringBuilder();
      for (int i = 0; i < 6; i++) text.append("spouse ").append("abcdef".charAt(i)).append(i == 2 * c + 1 ? " 9; " : " 50; ");
      text.append("couple a b; couple c d; couple e f; third p 1 10; third q 1 20; third r 1 30; length = 1; takes = 0 - 9;");
      SpouseTalk x = Tape.read(text.toString());
      for (int i = 0; i < 3; i++) x.hire(i, i);
      x.weeks(1);
      T.due("parted", x.count(4), 1 << c);
      for (int i = 0; i < 3; i++) {
        T.due("third of " + i + " behind " + c, x.couple(i, 2), i == c ? -2 : i);
        T.due("couples of " + i + " behind " + c, x.third(i, 6), i == c ? 0 : 1 << i);
        T.due("tired " + i + " behind " + c, x.third(i, 1), 10 + 10 * i + (i == c ? 1 - 5 : 1));
        T.due("heard " + i + " behind " + c, x.spouse(2 * i + 1, 3), 1);
      }
    }
  }

  // One COUPLE that has PARTED leaves the others as they are.
  private static void othersGoOn() {
    SpouseTalk x = Tape.read("spouse a 1; spouse b 50; spouse c 50; spouse d 50; spouse e 50; spouse f 50; couple c d; couple a b; couple e f; third t 1 50; takes = 1; length = 1;");
    x.hire(0, 0);
    x.hire(2, 0);
    x.weeks(2);
    T.due("parted ones", x.count(4), 2);
    T.due("hired by the others", x.third(0, 6), 5);
    T.due("c, d", x.spouse(2, 0) + x.spouse(3, 0), 102);
    T.due("e, f", x.spouse(4, 0) + x.spouse(5, 0), 102);
    T.due("tired", x.third(0, 1), 54);
  }

  // "Then THIRDS hired by nobody are 5 less TIRED (0 at least)."
  private static void restedThirds() {
    for (int tired : new int[] {0, 1, 4, 5, 6, 10, 98, 99}) {
      SpouseTalk x = Tape.read("spouse a 50; spouse b 50; couple a b; third t 1 " + tired + "; third u 1 " + tired + "; length = 0;");
      x.hire(0, 1);
      x.weeks(1);
      T.due("5 less of " + tired, x.third(0, 1), Math.max(0, tired - 5));
      T.due("hired, it does not rest", x.third(1, 1), tired);
      x = Tape.read("third t 1 " + tired + ";");
      x.weeks(1);
      T.due("without couples", x.third(0, 1), Math.max(0, tired - 5));
    }
    // One whose only COUPLE has PARTED this week rests at once, behind that talk; another COUPLE keeps it awake.
    SpouseTalk x = Tape.read("spouse a 50; spouse b 1; spouse c 50; spouse d 50; couple a b; couple c d; third t 1 10; length = 2; takes = 0 - 1;");
    x.hire(0, 0);
    x.weeks(1);
    T.due("rests at once", x.third(0, 1), 7);
    x = Tape.read("spouse a 50; spouse b 1; spouse c 50; spouse d 50; couple a b; couple c d; third t 1 10; length = 2; takes = 0 - 1;");
    x.hire(0, 0);
    x.hire(1, 0);
    x.weeks(1);
    T.due("hired by another one", x.third(0, 1), 14);
    x = Tape.read("spouse a 50; spouse b 1; couple a b; third t 1 98; length = 5; takes = 0 - 1;");
    x.hire(0, 0);
    x.weeks(1);
    T.due("99 at most, then 5 less", x.third(0, 1), 94);
  }

  // "It is the next week."
  private static void theNextWeek() {
    SpouseTalk x = new SpouseTalk();
    T.due("1", x.weeks(1), 1);
    T.due("61", x.weeks(60), 61);
    x = Tape.read("spouse a 50; length = 1; says = week;");
    for (int week = 0; week < 10; week++) {
      T.due("week " + week, x.spouse(0, 2), row(week % 8));
      x.weeks(1);
    }
  }

  public static void main(String[] args) {
    theFirstIfThatHolds();
    intsThatWrap();
    roundedTowardsZero();
    dividedByZero();
    whatIsNotToldIsZero();
    lengthHeldToFive();
    saysByTheRestOfEight();
    bendsByTheRestOfNine();
    daresNoMoreThanZero();
    dropsHeldToHundred();
    lotsOfEachPlace();
    takesHeldToNine();
    moodHeldToNinetyNine();
    whoSpeaksInWhichWeek();
    tiredNinetyNineAtMost();
    paidForEachWordSaid();
    lovesHeldToNine();
    finedIfItIsNotWhatWasSaid();
    askedByHowAllWasAhead();
    silentOnes();
    partedByMoodZero();
    partedOnesHaveNoThird();
    othersGoOn();
    restedThirds();
    theNextWeek();
    T.end();
  }
}
