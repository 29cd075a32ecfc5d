/** One method a promise: ordinary inputs, the edges that the document names, wrong inputs. */
public final class PromisesTest {
  private static final Tape T = new Tape();
  private static final int NONE = SpouseTalk.NONE;

  /** Two couples and two thirds; tom bends by the place, una by 3 more. */
  private static final String HOME = "spouse ann 50; spouse bob 40; spouse cid 5; spouse dot 60;"
      + "couple ann bob; couple cid dot; third tom 2 0; third una 3 10;"
      + "length = 2 + which; says = place + mood / 20; bends = word + which * 3 - place;"
      + "takes = word - 3; loves = mood / 25; dares = love - 1; fine 7; seed 2;";

  private static int row(int... words) {
    return Tape.row(words);
  }

  private static void fault(String text, int number, int place) {
    T.fault(text, number, place);
  }

  private static void p1NewObject() {
    SpouseTalk x = new SpouseTalk();
    for (int what = 0; what <= 13; what++) T.due("new count " + what, x.count(what), 0);
    T.due("new spouse", x.spouse(0, 0), NONE);
    T.due("new couple", x.couple(0, 0), NONE);
    T.due("new third", x.third(0, 0), -100000);
    T.due("new place", x.place(), NONE);
    T.due("NONE", SpouseTalk.NONE, -1);
  }

  private static void p2Feed() {
    SpouseTalk x = new SpouseTalk();
    for (int i = 1; i <= 100; i++) T.due("feed " + i, x.feed(0x20202020, 0x20202020, 0x20202020, 0x20202020, 0x20202020), 20 * i);
    T.due("feed too much", x.feed(0, 0, 0, 0, 0), NONE);
    T.due("count 8", x.count(8), 2000);
    T.due("back", x.back(19), 1981);
    T.due("feed 2001", x.feed(0, 0, 0, 0, 0), NONE);
    T.due("back", x.back(1), 1980);
    T.due("feed 2000", x.feed(0x20202020, 0x20202020, 0x20202020, 0x20202020, 0x20202020), 2000);
    T.due("all blanks", x.read(), 0);
    // "spouse ab 12;" byte by byte: the highest byte comes first, the first int first.
    x.feed(0x73706f75, 0x73652061, 0x62203132, 0x3b0a0d09, 0x20202020);
    T.due("order of bytes", x.read(), 0);
    T.due("order of bytes", x.spouse(0, 0), 12);
    x.feed(0x20202020, 0x20202020, 0x20202020, 0x20202020, 0x202020c8);
    T.due("a byte over 127", x.read(), 1);
    T.due("a byte over 127", x.place(), 19);
  }

  private static void p3Back() {
    SpouseTalk x = new SpouseTalk();
    T.due("back 0 of 0", x.back(0), 0);
    T.due("back 1 of 0", x.back(1), NONE);
    x.feed(0x73706f75, 0x73652061, 0x62203132, 0x3b3b3b3b, 0x3b3b3b3b);
    T.due("back below 0", x.back(-1), NONE);
    T.due("back least int", x.back(Integer.MIN_VALUE), NONE);
    T.due("back 21", x.back(21), NONE);
    T.due("back 7", x.back(7), 13);
    T.due("read", x.read(), 0);
    T.due("empty then", x.count(8), 0);
    T.due("last bytes went", x.spouse(0, 0), 12);
  }

  private static void p4ReadForm() {
    fault("", 0, NONE);
    fault(" \t\r\n", 0, NONE);
    fault("spouse", 1, 6);
    fault("spouse a 1", 1, 10);
    fault("spouse a 1  ", 1, 12);
    fault("spouse a;", 1, 8);
    fault("spouse 1 a;", 1, 7);
    fault("spousea1;", 1, 0);
    fault("spouse a1;third b2 3;", 0, NONE);
    fault("spouse mood 1;", 1, 7);
    fault("spouse moods 1;", 0, NONE);
    fault("spouse abcdefgh 1;", 0, NONE);
    fault("spouse abcdefghi 1;", 1, 7);
    fault("spouse A 1;", 1, 7);
    fault("seed 9999;", 0, NONE);
    fault("seed 0000;", 0, NONE);
    fault("seed 00001;", 1, 5);
    fault("seed 1;.", 1, 7);
    fault("; seed 1;", 1, 0);
    fault("bends word;", 1, 6);
    fault("bends = word", 1, 12);
    fault("bends = ;", 1, 8);
    fault("bends = - 1;", 1, 8);
    fault("bends = 1 2;", 1, 10);
    fault("bends = (1;", 1, 10);
    fault("bends = 1);", 1, 9);
    fault("bends = 1 < 2;", 1, 10);
    fault("bends = if 1 < 2 then 3;", 1, 23);
    fault("bends = if 1 then 3 else 4;", 1, 13);
    fault("bends = (if 1 < 2 then 3 else 4);", 1, 9);
    fault("bends = if 1 < 2 then 3 else if 3 < 4 then 5 else 6;", 0, NONE);
    fault("bends = names;", 1, 8);
    fault("bends = word + place * mood - tired / love + which + week + price + fines;", 0, NONE);
    fault("length = 1; says = 1; bends = 1; drops = 1; takes = 1; loves = 1; dares = 1;", 0, NONE);
  }

  private static void p4ReadRoom() {
    String six = "spouse a 1;spouse b 1;spouse c 1;spouse d 1;spouse e 1;spouse f 1;";
    fault(six, 0, NONE);
    fault(six + "spouse g 1;", 2, 66);
    fault(six + "spouse", 2, 66);
    fault(six + "spouse a 1;", 2, 66);
    fault("third a 1 1;third b 1 1;third c 1 1;third d 1 1;", 0, NONE);
    fault("third a 1 1;third b 1 1;third c 1 1;third d 1 1; third", 2, 49);
    fault(six + "couple a b;couple c d;couple e f;couple a a;", 2, 99);
    fault("couple x x;couple x x;couple x x;couple x x;", 2, 33);
    String ifs = "if 1<2 then 3 else ";
    fault("says=" + ifs.repeat(4) + "5;", 0, NONE);
    fault("says=" + ifs.repeat(5) + "5;", 2, 5 + 4 * 19);
    fault("says=" + ifs.repeat(4) + "5;bends=" + ifs.repeat(4) + "5;", 0, NONE);
    fault("says=" + "(".repeat(6) + "5" + ")".repeat(6) + ";", 0, NONE);
    fault("says=" + "(".repeat(6) + "5" + ")".repeat(6) + "*(1);", 0, NONE);
    fault("says=" + "(".repeat(7) + "5" + ")".repeat(7) + ";", 2, 11);
    fault("says=((((((5))))))+((((((5)+(((((", 2, 29);
    fault("says=1+((((((1)+(1)*((2);", 2, 21);
    // Of one place the least: a 7th ( that no text goes on with is SYNTAX.
    fault("says=((((((5(", 1, 12);
    String sum = "says=1" + "+1".repeat(198);
    fault(sum + ";", 0, NONE);
    fault(sum + "; ", 0, NONE);
    fault(sum + ";seed", 2, sum.length() + 1);
    fault(sum + ";;", 1, sum.length() + 1);
    fault(sum + ";99999", 1, sum.length() + 1);
    fault(sum + "*2;", 2, sum.length() + 1);
    fault(sum + "*2", 2, sum.length() + 1);
    fault(sum + "*;", 1, sum.length() + 1);
    fault(sum + "* ", 1, sum.length() + 2);
    fault("x" + sum + "*2;", 1, 0);
    // The 401st TOKEN, well placed, in each sort of TELL.
    String law = "says=1" + "+1".repeat(196) + ";";
    fault(law + "fine 1;fine 1", 2, law.length() + 12);
    fault(law + "fine 1;seed 1", 2, law.length() + 12);
    fault(law + "fine 1;says =", 2, law.length() + 12);
    fault(law + "fine 1;third a", 2, law.length() + 13);
    fault(law + "third a 1 1;", 2, law.length() + 11);
    fault(law + "fine 1;couple a", 2, law.length() + 14);
    fault(law + "spouse a 1;spouse", 2, law.length() + 11);
    fault(law + "couple a b;couple", 2, law.length() + 11);
  }

  private static void p4ReadMeaning() {
    fault("spouse a 1; spouse a 1;", 3, 19);
    fault("spouse a 1; third a 1 1;", 3, 18);
    fault("third a 1 1; spouse a 1;", 3, 20);
    fault("third a 1 1; third a 1 1;", 3, 19);
    fault("spouse a 1; spouse b 1; couple a a;", 3, 33);
    fault("spouse a 1; spouse b 1; couple a b; couple b a;", 3, 43);
    fault("spouse a 1; spouse b 1; spouse c 1; couple a b; couple c b;", 3, 57);
    fault("spouse a 1; couple a b;", 4, 21);
    fault("spouse a 1; couple b a;", 4, 19);
    fault("spouse a 1; couple a b; spouse b 1;", 4, 21);
    fault("spouse a 1; third b 1 1; couple a b;", 4, 34);
    String ten = "third a 1 1;third b 1 1;third c 1 1;third d 1 1;spouse e 1;spouse f 1;spouse g 1;spouse h 1;spouse y 1;spouse z 1;";
    fault(ten + "couple z e;couple f y;couple g h;", 0, NONE);
    fault(ten + "couple z z;", 3, ten.length() + 9);
    fault(ten + "couple z d;", 4, ten.length() + 9);
    fault(ten.replace("spouse z", "spouse y"), 3, ten.length() - 4);
    fault("spouse a 100;", 5, 9);
    fault("spouse a 99; third b 9 99; fine 99; seed 9999;", 0, NONE);
    fault("third b 10 99;", 5, 8);
    fault("third b 9 100;", 5, 10);
    fault("fine 100;", 5, 5);
    fault("says = 9999;", 0, NONE);
    fault("fine 100; couple a b; seed", 1, 26);
    fault("fine 100; couple a b;", 5, 5);
    fault("couple a b; fine 100;", 4, 7);
    fault("spouse a 100; spouse a 1;", 5, 9);
  }

  private static void p4ReadBegins() {
    SpouseTalk x = Tape.read(HOME);
    x.hire(0, 0);
    x.swear(1, true);
    x.weeks(3);
    x.hold(1);
    x.tell(2, 10);
    Tape.feed(x, "spouse a 100;");
    T.due("a fault", x.read(), 5);
    T.due("nothing changed: week", x.count(3), 3);
    T.due("nothing changed: undo", x.count(9), 3);
    T.due("nothing changed: told", x.count(10), 1);
    T.due("nothing changed: slots", x.count(11), 1);
    T.due("the tape is empty", x.count(8), 0);
    T.due("its place", x.place(), 9);
    Tape.feed(x, HOME);
    T.due("read", x.read(), 0);
    T.due("no place", x.place(), NONE);
    int[] begin = {4, 2, 2, 0, 0, 0, 0, 0, 0, 0, 0, 0, 0, 155};
    for (int what = 0; what < begin.length; what++) T.due("begun count " + what, x.count(what), begin[what]);
    T.due("nobody hired", x.couple(0, 2), -2);
    T.due("no love", x.third(0, 2), 0);
    T.due("nothing paid", x.third(0, 4), 0);
    T.due("nothing undone", x.undo(), false);
    T.due("nothing held", x.restore(1), false);
    T.due("an empty text", x.read(), 0);
    T.due("no spouses", x.count(0), 0);
  }

  private static void p4Laws() {
    law("2147483647", 0, false);
    law("9999 * 9999 * 9999", 9999 * 9999 * 9999, true);
    law("0 - 7 / 2", -3, true);
    law("(0 - 7) / 2 + 4", 1, true);
    law("7 / (0 - 2) + 4", 1, true);
    law("2 + 3 * 2 - 8 / 4 / 2", 7, true);
    law("9 - 3 - 2", 4, true);
    law("5 + 1 / 0", 0, true);
    law("5 + 0 * (1 / week)", 0, true);
    law("if 1 / 0 < 1 then 5 else 6", 0, true);
    law("if 1 < 2 then 5 else 6 / 0", 5, true);
    law("if 2 < 2 then 5 / 0 else 6", 6, true);
    law("if 2 < 1 then 5 else if 1 < 2 then 4 else 3", 4, true);
    law("if 1 < 2 then 5 else if 1 < 2 then 4 else 3", 5, true);
    law("if 0 - 1 < 0 then 5 else 3", 5, true);
    // 2^31 is the least int, divided by -1 it stays so.
    law("if 8192 * 8192 * 32 / (0 - 1) < 0 then 5 else 3", 5, true);
    // What is not told for a law is 0 for it.
    law("word + tired + love + price + fines + 3", 3, true);
    SpouseTalk x = Tape.read("says = 3; length = 1; says = 4; length = 2; spouse a 9; fine 1; fine 2;");
    T.due("the last law", x.spouse(0, 2), row(4, 4));
    x = Tape.read("spouse a 9; third t 0 0;");
    T.due("laws not told: length, says", x.spouse(0, 2), row(0, 1));
    T.due("laws not told: bends", x.heard(0, row(7, 0, 5, 3, 1)), row(7, 0, 5, 3, 1));
    T.due("laws not told: takes", x.takes(0, row(7, 0, 5, 3, 1)), 9);
    T.due("laws not told: dares", x.third(0, 7), 0);
  }

  private static void law(String law, int value, boolean fits) {
    SpouseTalk x = new SpouseTalk();
    Tape.feed(x, "spouse a 50; length = 1; says = " + law + ";");
    T.due("law " + law, x.read(), fits ? 0 : 1);
    if (fits) T.due("law " + law, x.spouse(0, 2), row(value < 0 ? 0 : value % 8));
  }

  private static void p5Place() {
    SpouseTalk x = new SpouseTalk();
    T.due("no read yet", x.place(), NONE);
    Tape.feed(x, "  #");
    x.read();
    T.due("at the sign", x.place(), 2);
    Tape.feed(x, "fine");
    T.due("feeding changes nothing", x.place(), 2);
    x.read();
    T.due("the end", x.place(), 4);
    x.read();
    T.due("no fault", x.place(), NONE);
  }

  private static void p6Spouse() {
    SpouseTalk x = Tape.read(HOME.replace("couple cid dot;", ""));
    T.due("mood", x.spouse(1, 0), 40);
    T.due("couple", x.spouse(1, 1), 0);
    T.due("no couple", x.spouse(2, 1), -2);
    T.due("row", x.spouse(0, 2), row(2, 3));
    T.due("row", x.spouse(3, 2), row(3, 4, 5, 6, 7));
    T.due("heard", x.spouse(1, 3), 0);
    x.hire(0, 0);
    x.weeks(1);
    T.due("heard", x.spouse(1, 3), 2);
    T.due("not who spoke", x.spouse(0, 3), 0);
    for (int s : new int[] {-1, 4, 6, Integer.MAX_VALUE, Integer.MIN_VALUE}) T.due("no such spouse", x.spouse(s, 0), NONE);
    for (int w : new int[] {-1, 4, Integer.MAX_VALUE, Integer.MIN_VALUE}) T.due("no such what", x.spouse(0, w), NONE);
    x = Tape.read("spouse a 50; length = 9; says = 0 - place;");
    T.due("5 at most, below 0: 0", x.spouse(0, 2), row(0, 0, 0, 0, 0));
    x = Tape.read("spouse a 50; length = 0 - 1;");
    T.due("0 at least", x.spouse(0, 2), 1);
  }

  private static void p7Couple() {
    SpouseTalk x = Tape.read("spouse a 3; spouse b 9; spouse c 9; spouse d 9; couple d b; couple c a; third t 4 0;");
    T.due("first", x.couple(0, 0), 3);
    T.due("second", x.couple(0, 1), 1);
    T.due("first", x.couple(1, 0), 2);
    T.due("second", x.couple(1, 1), 0);
    T.due("nobody", x.couple(0, 2), -2);
    x.hire(0, 0);
    T.due("third", x.couple(0, 2), 0);
    x.weeks(3);
    T.due("not parted", x.couple(0, 3), 0);
    T.due("parted", x.couple(1, 3), 1);
    T.due("paid", x.couple(0, 4), 24);
    T.due("paid nothing", x.couple(1, 4), 0);
    T.due("not silent", x.couple(0, 5), 0);
    T.due("silent", x.couple(1, 5), 3);
    x.weeks(2);
    T.due("parted ones are not silent", x.couple(1, 5), 3);
    T.due("parted ones keep their mood", x.spouse(2, 0), 6);
    for (int c : new int[] {-1, 2, 3, Integer.MAX_VALUE, Integer.MIN_VALUE}) T.due("no such couple", x.couple(c, 0), NONE);
    for (int w : new int[] {-1, 6, Integer.MAX_VALUE, Integer.MIN_VALUE}) T.due("no such what", x.couple(0, w), NONE);
  }

  private static void p8Third() {
    SpouseTalk x = Tape.read(HOME);
    T.due("price", x.third(1, 0), 3);
    T.due("tired", x.third(1, 1), 10);
    T.due("love", x.third(1, 2), 0);
    T.due("sworn", x.third(1, 3), 0);
    T.due("paid", x.third(1, 4), 0);
    x.hire(0, 1);
    x.hire(1, 1);
    T.due("both hired it", x.third(1, 6), 3);
    T.due("nobody hired it", x.third(0, 6), 0);
    x.swear(1, true);
    T.due("sworn", x.third(1, 3), 1);
    T.due("does not dare", x.third(1, 7), 0);
    x.weeks(1);
    // ann says 2 words, put as they are, love is 50 / 25 then, and una dares to bend cid's 4.
    T.due("tired", x.third(1, 1), 16);
    T.due("love", x.third(1, 2), 2);
    T.due("paid by the word, fined 7", x.third(1, 4), 18 - 7);
    T.due("fined once", x.third(1, 5), 1);
    T.due("dares by love", x.third(1, 7), 1);
    x.swear(1, false);
    T.due("dares, sworn or not", x.third(1, 7), 1);
    x = Tape.read("spouse a 9; spouse b 9; couple a b; third t 1 98; bends = 8; loves = 50; dares = 2 - fines; fine 9;");
    x.hire(0, 0);
    x.swear(0, true);
    x.weeks(4);
    T.due("fined while it dares", x.third(0, 5), 2);
    T.due("below 0", x.third(0, 4), 8 - 18);
    T.due("tired 99 at most", x.third(0, 1), 99);
    T.due("9 love a talk", x.third(0, 2), 36);
    x.weeks(9);
    T.due("love 99 at most", x.third(0, 2), 99);
    for (int t : new int[] {-1, 1, 4, Integer.MAX_VALUE, Integer.MIN_VALUE}) T.due("no such third", x.third(t, 0), -100000);
    for (int w : new int[] {-1, 8, Integer.MAX_VALUE, Integer.MIN_VALUE}) T.due("no such what", x.third(0, w), -100000);
  }

  private static void p9Hire() {
    SpouseTalk x = Tape.read(HOME);
    T.due("nobody already", x.hire(0, NONE), false);
    T.due("hire", x.hire(0, 1), true);
    T.due("it is so", x.hire(0, 1), false);
    T.due("another one", x.hire(0, 0), true);
    T.due("for several", x.hire(1, 0), true);
    T.due("nobody", x.hire(0, NONE), true);
    T.due("of the other couple", x.third(0, 6), 2);
    T.due("no such third", x.hire(0, 2), false);
    T.due("no such third", x.hire(0, -2), false);
    T.due("no such couple", x.hire(2, 0), false);
    T.due("no such couple", x.hire(-1, 0), false);
    T.due("things done", x.count(9), 4);
    x.hire(1, NONE);
    x.weeks(5);
    T.due("parted", x.hire(1, 0), false);
    T.due("parted", x.hire(1, NONE), false);
  }

  private static void p10Swear() {
    SpouseTalk x = Tape.read(HOME);
    T.due("not sworn already", x.swear(0, false), false);
    T.due("swear", x.swear(0, true), true);
    T.due("it is so", x.swear(0, true), false);
    T.due("bits", x.count(5), 1);
    T.due("other", x.swear(1, true), true);
    T.due("bits", x.count(5), 3);
    T.due("no more", x.swear(0, false), true);
    T.due("bits", x.count(5), 2);
    T.due("no such one", x.swear(2, true), false);
    T.due("no such one", x.swear(-1, true), false);
    T.due("things done", x.count(9), 3);
  }

  private static void p11Weeks() {
    SpouseTalk x = Tape.read(HOME);
    T.due("no week", x.weeks(0), 0);
    T.due("no thing done", x.count(9), 0);
    T.due("below 0", x.weeks(-1), NONE);
    T.due("above 60", x.weeks(61), NONE);
    T.due("nothing happened", x.count(3), 0);
    T.due("60", x.weeks(60), 60);
    T.due("one thing", x.count(9), 1);
    T.due("0 tells which", x.weeks(0), 60);

    x = Tape.read(HOME);
    x.hire(0, 0);
    x.weeks(1);
    // ann (even week) says 2 3, tom puts 2 2, bob takes -1 twice; cid and dot are silent.
    T.due("bob hears", x.spouse(1, 0), 38);
    T.due("ann's mood stays", x.spouse(0, 0), 50);
    T.due("silent", x.spouse(2, 0), 4);
    T.due("silent", x.spouse(3, 0), 59);
    T.due("words said", x.count(6), 2);
    T.due("una rests", x.third(1, 1), 5);
    x.swear(0, true);
    x.weeks(1);
    // bob (odd week) says 1 2 3; tom dares: 1 1 1.
    T.due("ann hears", x.spouse(0, 0), 44);
    T.due("fined", x.third(0, 4), 4 + 6 - 7);
    T.due("words heard", x.count(7), 5);
    oneThirdForTwo();
    dropping();
    parting();
  }

  private static void oneThirdForTwo() {
    // The second couple's talk is asked by how the first one left things.
    SpouseTalk x = Tape.read("spouse a 50; spouse b 50; spouse c 50; spouse d 50; couple a b; couple c d; third t 0 0;"
        + "length = 3; says = 0; bends = tired + love; loves = tired + love + which + 1; takes = word; ");
    x.hire(0, 0);
    x.hire(1, 0);
    x.weeks(1);
    // First talk: tired 0, love 0: words 0; then tired 3, love 1; second: words 4; love 1 + (3 + 1 + 1 + 1).
    T.due("first hears 0s", x.spouse(1, 0), 50);
    T.due("second hears 4s", x.spouse(3, 0), 62);
    T.due("tired", x.third(0, 1), 6);
    T.due("love", x.third(0, 2), 7);
  }

  private static int lot(int seed, int which) {
    int h = seed;
    for (int it : new int[] {91, which}) {
      h = (h ^ it) * 1103515245 + 12345;
      h = h ^ h >>> 15;
    }
    return (h >>> 1) % 100;
  }

  private static void dropping() {
    String text = "spouse a 50; spouse b 50; spouse c 50; spouse d 50; couple a b; couple c d; third t 0 0; third u 1 0;"
        + "length = 5; takes = place + 1; drops = 50; seed 77; ";
    SpouseTalk x = Tape.read(text);
    x.hire(1, 1);
    x.swear(1, true);
    x.weeks(2);
    int[] heard = new int[2];
    int fines = 0;
    for (int week = 0; week < 2; week++) {
      for (int i = 0; i < 5; i++) if (lot(77, 256 * week + 64 + 8 + i) >= 50) heard[week]++;
      if (heard[week] < 5) fines++;
    }
    T.due("dropped by lot", x.spouse(3, 3), heard[0]);
    T.due("dropped by lot", x.spouse(2, 3), heard[1]);
    T.due("places as heard", x.spouse(3, 0), 50 + heard[0] * (heard[0] + 1) / 2);
    T.due("a sworn one is fined for what is dropped", x.third(1, 5), fines);
    T.due("words said are paid", x.third(1, 4), 10 - 10 * fines);
    T.due("nothing is dropped but in weeks", x.heard(1, row(1, 2, 3, 4, 5)), row(1, 2, 3, 4, 5));
    eachLot(text, 77);
    eachLot(text.replace("seed 77;", ""), 0);
    x = Tape.read(text + "drops = 0 - 5;");
    x.hire(0, 0);
    x.weeks(1);
    T.due("drops at least 0", x.count(7), 5);
    x = Tape.read(text + "drops = 1000;");
    x.hire(0, 0);
    x.weeks(1);
    T.due("drops at most 100", x.count(7), 0);
  }

  /** Both couples by both thirds, word by word, for 12 weeks. */
  private static void eachLot(String text, int seed) {
    SpouseTalk x = Tape.read(text);
    int heard = 0;
    for (int week = 0; week < 12; week++) {
      for (int couple = 0; couple < 2; couple++) {
        int third = (week / 3 + couple) % 2;
        x.hire(couple, third);
        for (int i = 0; i < 5; i++) if (lot(seed, 256 * week + 64 * third + 8 * couple + i) >= 50) heard++;
      }
      x.weeks(1);
      T.due("heard in week " + week, x.count(7), heard);
    }
  }

  private static void parting() {
    SpouseTalk x = Tape.read("spouse a 1; spouse b 9; couple a b; third t 1 50; takes = 0 - 9; length = 1;");
    x.hire(0, 0);
    x.weeks(1);
    T.due("parted by what b heard", x.couple(0, 3), 1);
    T.due("has a third no more", x.couple(0, 2), -2);
    T.due("the third rests at once", x.third(0, 1), 46);
    T.due("paid all the same", x.third(0, 4), 1);
    x.weeks(10);
    T.due("nothing more is said", x.count(6), 1);
    T.due("nobody is sadder", x.spouse(0, 0), 1);
    T.due("rests to 0", x.third(0, 1), 0);
    x = Tape.read("spouse a 0; spouse b 9; couple a b;");
    T.due("mood 0 from the start", x.couple(0, 3), 0);
    x.weeks(1);
    T.due("parts behind a week", x.couple(0, 3), 1);
    T.due("mood 0 at least", x.spouse(0, 0), 0);
    T.due("silent once", x.couple(0, 5), 1);
  }

  private static void p12Undo() {
    SpouseTalk x = Tape.read(HOME);
    T.due("nothing", x.undo(), false);
    x.hire(0, 0);
    x.swear(0, true);
    x.weeks(2);
    T.due("undo weeks", x.undo(), true);
    T.due("week", x.count(3), 0);
    T.due("mood", x.count(13), 155);
    T.due("said", x.count(6), 0);
    T.due("undo swear", x.undo(), true);
    T.due("not sworn", x.count(5), 0);
    T.due("undo hire", x.undo(), true);
    T.due("nobody", x.couple(0, 2), -2);
    T.due("no more", x.undo(), false);
    for (int i = 0; i < 45; i++) x.swear(0, i % 2 == 0);
    T.due("40 at most", x.count(9), 40);
    for (int i = 0; i < 40; i++) {
      T.due("undo " + i, x.undo(), true);
      T.due("as it was", x.third(0, 3), i % 2);
    }
    T.due("not 41", x.undo(), false);
    x.tell(0, 8);
    x.weeks(1);
    x.undo();
    T.due("what is told stays", x.count(10), 1);
  }

  private static void p13Bends() {
    SpouseTalk x = Tape.read(HOME);
    T.due("as it is", x.bends(0, 2, 0), 2);
    T.due("by the place", x.bends(0, 7, 4), 3);
    T.due("below 0", x.bends(0, 0, 1), 0);
    T.due("left out", x.bends(1, 5, 0), 8);
    T.due("rest by 9", x.bends(1, 6, 0), 0);
    x.swear(1, true);
    T.due("sworn", x.bends(1, 6, 0), 6);
    for (int t : new int[] {-1, 2}) T.due("no such third", x.bends(t, 0, 0), NONE);
    for (int w : new int[] {-1, 8}) T.due("no such word", x.bends(0, w, 0), NONE);
    for (int at : new int[] {-1, 5}) T.due("no such place", x.bends(0, 0, at), NONE);
    x = Tape.read("third t 3 4; third u 5 1; bends = word + 2 * place + price * which + tired;");
    T.due("price, tired, which", x.bends(1, 0, 0), 6);
    T.due("price, tired, which", x.bends(0, 0, 1), 6);
  }

  private static void p14Heard() {
    SpouseTalk x = Tape.read(HOME);
    T.due("by tom", x.heard(0, row(2, 3)), row(2, 2));
    T.due("places are those of what is said", x.heard(1, row(5, 5, 5, 5, 5)), row(7, 6, 5, 4));
    T.due("nothing said", x.heard(0, 1), 1);
    T.due("all left out", x.heard(1, row(5)), 1);
    for (int r : new int[] {0, 2, 7, 16, 63, 128, 511, 1024, 4095, 8192, 32767, 65536, -1, -8, Integer.MIN_VALUE, Integer.MAX_VALUE, 262144})
      T.due("no row " + r, x.heard(0, r), NONE);
    T.due("no such third", x.heard(2, 1), NONE);
    T.due("no such third", x.heard(-1, 1), NONE);
  }

  private static void p15Chain() {
    SpouseTalk x = Tape.read(HOME);
    T.due("tom, una", x.chain(0, 1, row(2, 3)), row(5, 4));
    T.due("una, tom: places anew", x.chain(1, 0, row(5, 5, 5)), row(7, 5));
    T.due("the same twice", x.chain(0, 0, row(7, 7)), row(7, 5));
    T.due("no row", x.chain(0, 0, 2), NONE);
    T.due("no such", x.chain(2, 0, 1), NONE);
    T.due("no such", x.chain(0, 2, 1), NONE);
    T.due("no such", x.chain(0, -1, 1), NONE);
  }

  private static void p16Say() {
    SpouseTalk x = Tape.read(HOME);
    T.due("least number", x.say(0, row(2, 0)), row(2, 0));
    T.due("least number", x.say(0, row(2, 2)), row(2, 3));
    T.due("nothing", x.say(0, 1), 1);
    T.due("none", x.say(0, row(0, 7)), -2);
    T.due("five words", x.say(0, row(0, 0, 0, 0, 0)), -2);
    T.due("four words", x.say(0, row(0, 0, 0, 0)), row(0, 0, 0, 0));
    T.due("no row", x.say(0, 3), NONE);
    T.due("no such third", x.say(2, 1), NONE);
    x = Tape.read("third t 0 0; bends = if place < 2 then 8 else 7 - word;");
    T.due("more words than arrive", x.say(0, row(3, 5)), row(0, 0, 4, 2));
    T.due("too many", x.say(0, row(3, 5, 1)), -2);
    x = Tape.read("third t 0 0; bends = if word < 2 then 8 else word + place - 2;");
    T.due("shortest first", x.say(0, row(5)), row(7));
    T.due("then by left out ones", x.say(0, row(7)), row(0, 0, 7));
  }

  private static void p17Loses() {
    SpouseTalk x = Tape.read(HOME);
    T.due("tom, una", x.loses(0, 1, row(2, 3)), 2);
    T.due("tom twice", x.loses(0, 0, row(2, 3)), 1);
    T.due("two left out or one changed", x.loses(1, 0, row(5, 6, 5)), 2);
    T.due("nothing said", x.loses(1, 1, 1), 0);
    T.due("no row", x.loses(0, 0, 0), NONE);
    T.due("no such", x.loses(2, 0, 1), NONE);
    T.due("no such", x.loses(0, 2, 1), NONE);
  }

  private static void p18Least() {
    SpouseTalk x = new SpouseTalk();
    T.due("no thirds", x.least(1), -2);
    T.due("no row, looked at first", x.least(2), NONE);
    x = Tape.read("third a 0 0; third b 0 0; third c 0 0; bends = if which < 1 then word + 1 else if which < 2 then word - 1 else word;");
    T.due("a, b", x.least(row(0)), 1);
    T.due("a, b", x.least(row(3)), 1);
    T.due("b, a: 7 is left out by a", x.least(row(7)), 10);
    T.due("c twice", x.least(row(0, 7)), 22);
    T.due("all alike", x.least(1), 0);
  }

  private static void p19Truest() {
    SpouseTalk x = new SpouseTalk();
    T.due("none", x.truest(1), -2);
    T.due("no row", x.truest(0), NONE);
    x = Tape.read("third a 0 0; third b 0 0; third c 0 0; bends = word * (3 - which);");
    T.due("c", x.truest(row(1, 2)), 2);
    T.due("first of alike ones", x.truest(row(0, 0)), 0);
    x.swear(1, true);
    T.due("b by oath", x.truest(row(1, 2)), 1);
  }

  private static void p20Crooked() {
    SpouseTalk x = Tape.read(HOME);
    T.due("tom at 0", x.crooked(0, 0), 0);
    T.due("tom at 1", x.crooked(0, 1), 7);
    T.due("una at 0", x.crooked(1, 0), 8);
    T.due("una at 3", x.crooked(1, 3), 0);
    T.due("una at 4", x.crooked(1, 4), 7);
    for (int at : new int[] {-1, 5}) T.due("no such place", x.crooked(0, at), NONE);
    T.due("no such third", x.crooked(2, 0), NONE);
    x.swear(1, true);
    T.due("by oath", x.crooked(1, 0), 0);
  }

  private static void p21Altered() {
    SpouseTalk x = new SpouseTalk();
    T.due("alike", x.altered(row(1, 2, 3), row(1, 2, 3)), 0);
    T.due("left out", x.altered(row(1, 2, 3, 4, 5), row(2, 4)), 3);
    T.due("put in", x.altered(row(2, 4), row(1, 2, 3, 4, 5)), 3);
    T.due("changed", x.altered(row(1, 2, 3), row(1, 7, 3)), 1);
    T.due("moved", x.altered(row(1, 2, 3, 4, 5), row(2, 3, 4, 5, 1)), 2);
    T.due("from none", x.altered(1, row(7, 7, 7, 7, 7)), 5);
    T.due("no row", x.altered(1, 65536), NONE);
    T.due("no row", x.altered(16, 1), NONE);
  }

  private static void p22Takes() {
    SpouseTalk x = Tape.read("spouse a 50; spouse b 95; takes = if mood < 60 then word * 9 - 9 else which + place;");
    T.due("held to 9", x.takes(0, row(7)), 59);
    T.due("mood as it is then", x.takes(0, row(7, 2, 7)), 50 + 9 + 9 + 2);
    T.due("held to -9", x.takes(0, row(0, 0)), 32);
    T.due("99 at most", x.takes(1, row(0, 0, 0, 0)), 99);
    T.due("nothing heard", x.takes(1, 1), 95);
    T.due("nothing happens", x.spouse(0, 0), 50);
    T.due("no row", x.takes(0, 2), NONE);
    T.due("no such one", x.takes(2, 1), NONE);
    T.due("no such one", x.takes(-1, 1), NONE);
    x = Tape.read("spouse a 5; takes = 0 - 99;");
    T.due("0 at least", x.takes(0, row(1)), 0);
    x = Tape.read("spouse a 5; takes = 99 - 90 * place;");
    T.due("held word by word", x.takes(0, row(1, 1)), 14 + 9);
  }

  private static void p23Hires() {
    SpouseTalk x = new SpouseTalk();
    T.due("no couples", x.hires(NONE), 0);
    T.due("no such couple", x.hires(0), NONE);
    x = Tape.read(HOME.replace("third una 3 10;", ""));
    T.due("more couples than thirds", x.hires(NONE), -2);
    T.due("more couples than thirds", x.hires(0), -2);
    T.due("no such couple first", x.hires(2), NONE);
    T.due("no such couple", x.hires(-2), NONE);
    x.weeks(5);
    T.due("one has parted", x.hires(1), -2);
    T.due("the other one", x.hires(0), 0);
    String text = "spouse a 10; spouse b 70; spouse c 20; spouse d 70; couple a b; couple c d; third t 0 0; third u 0 0; third v 0 0;"
        + "length = 3; says = mood / 10; bends = ";
    // a says 1s, c says 2s: v is best for a, t for c; together the sum is 0.
    x = Tape.read(text + "if which < 1 then 2 else if which < 2 then 0 else 1;");
    T.due("sum", x.hires(NONE), 0);
    T.due("for a", x.hires(0), 2);
    T.due("for c", x.hires(1), 0);
    // u is best for both, but each has another one: alike sums, the first by the first couple's.
    x = Tape.read(text + "if which < 1 then 0 else if which < 2 then word else 0;");
    T.due("sum", x.hires(NONE), 3);
    T.due("for a", x.hires(0), 0);
    T.due("for c", x.hires(1), 1);
    x.weeks(1);
    T.due("b and d speak in odd weeks", x.hires(NONE), 3);
    T.due("nothing is hired", x.couple(0, 2), -2);
  }

  private static void p24Then() {
    SpouseTalk x = Tape.read(HOME);
    x.hire(0, 0);
    T.due("now", x.then(1, 0), 40);
    T.due("in 1", x.then(1, 1), 38);
    T.due("silent ones", x.then(3, 4), 56);
    T.due("parted by then", x.then(3, 60), 55);
    T.due("nothing happens", x.count(3), 0);
    T.due("below 0", x.then(0, -1), NONE);
    T.due("above 60", x.then(0, 61), NONE);
    T.due("no such one", x.then(4, 0), NONE);
    int later = x.then(0, 7);
    x.weeks(7);
    T.due("as it comes", x.spouse(0, 0), later);
  }

  private static void p25Paid() {
    SpouseTalk x = Tape.read(HOME);
    x.hire(0, 0);
    T.due("paid", x.paid(0, 1, 0), 4);
    T.due("tired", x.paid(0, 1, 1), 2);
    T.due("love", x.paid(0, 1, 2), 2);
    T.due("rested", x.paid(1, 1, 1), 5);
    T.due("now", x.paid(1, 0, 1), 10);
    T.due("nothing happens", x.third(0, 4), 0);
    for (int w : new int[] {-1, 3}) T.due("no such what", x.paid(0, 1, w), -100000);
    for (int n : new int[] {-1, 61}) T.due("no such n", x.paid(0, n, 0), -100000);
    for (int t : new int[] {-1, 2}) T.due("no such third", x.paid(t, 1, 0), -100000);
    int[] later = {x.paid(0, 60, 0), x.paid(0, 60, 1), x.paid(0, 60, 2)};
    x.weeks(60);
    T.due("as it comes", x.third(0, 4), later[0]);
    T.due("as it comes", x.third(0, 1), later[1]);
    T.due("as it comes", x.third(0, 2), later[2]);
  }

  private static void p26Parts() {
    SpouseTalk x = Tape.read("spouse a 99; spouse b 99; spouse c 99; spouse d 50; couple a b; couple c d; third t 0 0;");
    T.due("silent to the end", x.parts(0), 99);
    x.hire(0, 0);
    T.due("never", x.parts(0), -2);
    T.due("the other one", x.parts(1), 50);
    x.weeks(49);
    T.due("next week", x.parts(1), 1);
    x.weeks(1);
    T.due("it has", x.parts(1), 0);
    T.due("no such", x.parts(2), NONE);
    T.due("no such", x.parts(-1), NONE);
    String text = "spouse a 99; spouse b 99; couple a b; third t 0 0; length = 1; says = 0; takes = if week < ";
    // b hears in even weeks, a in odd ones; 11 times 9 less is 0.
    for (int from = 178; from <= 180; from++) {
      x = Tape.read(text + from + " then 0 else 0 - 9;");
      x.hire(0, 0);
      T.due("from " + from + " on", x.parts(0), from < 180 ? from + 21 : -2);
    }
    x.weeks(1);
    T.due("200 from week 1 on", x.parts(0), 200);
    T.due("nothing happens", x.count(3), 1);
  }

  private static void p27Oaths() {
    SpouseTalk x = new SpouseTalk();
    T.due("no thirds", x.oaths(1, NONE), 1);
    T.due("nobody sworn", x.oaths(1, 0), 0);
    T.due("not so many", x.oaths(1, 1), NONE);
    x = Tape.read(HOME);
    for (int n : new int[] {0, -1, 25}) T.due("no such n", x.oaths(n, NONE), NONE);
    T.due("no such i", x.oaths(1, -2), NONE);
    T.due("nobody is hired: all rest", x.oaths(24, NONE), 4);
    for (int i = 0; i < 4; i++) T.due("the least first", x.oaths(24, i), i);
    T.due("not so many", x.oaths(24, 4), NONE);
    // t alters what it puts and dares: sworn it pays; u puts as said, it makes no odds.
    x = Tape.read("spouse a 50; spouse b 50; spouse c 50; spouse d 50; couple a b; couple c d; third t 2 0; third u 2 0; bends = word + 1 - which; dares = 1;");
    x.hire(0, 0);
    x.hire(1, 1);
    x.swear(0, true);
    T.due("rest", x.oaths(2, NONE), 2);
    T.due("none", x.oaths(2, 0), 0);
    T.due("u", x.oaths(2, 1), 2);
    T.due("nothing happens", x.count(5), 1);
    // What is bent makes b part at once; sworn, it stays and pays on.
    x = Tape.read("spouse a 50; spouse b 5; couple a b; third t 2 0; bends = 7; length = 1; says = 0; takes = 0 - word;");
    x.hire(0, 0);
    T.due("one week: alike", x.oaths(1, NONE), 2);
    T.due("two weeks: sworn", x.oaths(2, NONE), 1);
    T.due("two weeks: sworn", x.oaths(2, 0), 1);
  }

  private static void p28Year() {
    String text = "spouse a 50; spouse b 4; couple a b; third t 0 0; length = 1; says = 0; takes = 0 - 9; drops = 50; seed ";
    SpouseTalk x = Tape.read(text + "9990;");
    x.hire(0, 0);
    int parted = 0;
    for (int s = 9990; s < 10010; s++) if (lot(s, 0) >= 50) parted++;
    T.due("by seeds, beyond 9999 too", x.year(0, 1, 20), parted);
    T.due("the first seed is the text's", x.year(0, 1, 1), lot(9990, 0) >= 50 ? 1 : 0);
    T.due("no week", x.year(0, 0, 20), 0);
    T.due("nothing happens", x.count(3), 0);
    for (int n : new int[] {-1, 61}) T.due("no such n", x.year(0, n, 1), NONE);
    for (int s : new int[] {0, -1, 21}) T.due("no such s", x.year(0, 1, s), NONE);
    for (int c : new int[] {-1, 1}) T.due("no such couple", x.year(c, 1, 1), NONE);
    x.hire(0, NONE);
    T.due("in the 4th week", x.year(0, 3, 20), 0);
    T.due("in the 4th week", x.year(0, 4, 20), 20);
    x.weeks(4);
    T.due("it has parted", x.year(0, 0, 7), 7);
  }

  private static void p29Tell() {
    SpouseTalk x = new SpouseTalk();
    T.due("two words", x.tell(0, 64), NONE);
    T.due("no row", x.tell(0, 0), NONE);
    T.due("no row", x.tell(0, 7), NONE);
    T.due("no row", x.tell(0, 16), NONE);
    T.due("no word", x.tell(8, 8), NONE);
    T.due("no word", x.tell(-1, 8), NONE);
    for (int i = 0; i < 20; i++) T.due("its number", x.tell(i % 8, i % 3 == 0 ? 1 : 8 + i % 8), i);
    T.due("20 are there", x.tell(0, 8), NONE);
    T.due("20", x.count(10), 20);
  }

  private static void p30Forget() {
    SpouseTalk x = Tape.read(HOME);
    T.due("none", x.forget(), 0);
    x.tell(2, 10);
    x.tell(2, 11);
    T.due("two", x.forget(), 2);
    T.due("none", x.forget(), 0);
    T.due("none", x.count(10), 0);
    T.due("from 0 on again", x.tell(2, 13), 0);
    T.due("una", x.who(1), 2);
  }

  private static void p31Who() {
    SpouseTalk x = Tape.read(HOME);
    T.due("all", x.who(0), 3);
    T.due("no such k", x.who(1), NONE);
    T.due("no such k", x.who(-1), NONE);
    x.tell(2, 10);
    x.tell(5, 1);
    T.due("all", x.who(0), 3);
    T.due("tom", x.who(1), 1);
    T.due("nobody", x.who(2), 0);
    T.due("no such k", x.who(3), NONE);
    x.forget();
    x.tell(5, 1);
    T.due("una leaves out 5", x.who(1), 2);
    x.swear(1, true);
    T.due("as things are now", x.who(1), 0);
  }

  private static void p32Ask() {
    SpouseTalk x = new SpouseTalk();
    T.due("nobody", x.ask(0), -2);
    T.due("no such k", x.ask(1), NONE);
    T.due("no such k", x.ask(-1), NONE);
    // Word 0 and 1 tell nothing, 2 tells one from three, 3 two from two, 5 all four.
    String bends = "bends = if word < 2 then word else if word < 3 then (which + 1) / 4 else if word < 4 then which / 2 else ";
    String thirds = "third a 0 0; third b 0 0; third c 0 0; third d 0 0; ";
    x = Tape.read(thirds + bends + "which / (6 - word);");
    T.due("fewest at worst: 5 leaves 1", x.ask(0), 5);
    x = Tape.read(thirds + bends + "0;");
    T.due("3 leaves 2", x.ask(0), 3);
    x.tell(3, row(1));
    T.due("c, d", x.who(1), 12);
    T.due("2 tells c from d", x.ask(1), 2);
    x.tell(2, row(1));
    T.due("d alone: the least word", x.ask(2), 0);
    x.tell(2, row(7));
    T.due("nobody", x.ask(3), -2);
    T.due("as before", x.ask(1), 2);
    x = Tape.read(thirds + "bends = if word < 8 then 0 else which;");
    T.due("words are 0 .. 7", x.ask(0), 0);
  }

  private static void p33Hold() {
    SpouseTalk x = Tape.read(HOME);
    T.due("slot", x.hold(0), true);
    T.due("slot", x.hold(2), true);
    T.due("no such", x.hold(3), false);
    T.due("no such", x.hold(-1), false);
    T.due("two hold", x.count(11), 2);
    T.due("again", x.hold(2), true);
    T.due("two hold", x.count(11), 2);
    T.due("no thing done", x.count(9), 0);
    SpouseTalk y = new SpouseTalk();
    T.due("a new one", y.hold(1), true);
    T.due("a new one", y.restore(1), true);
  }

  private static void p34Restore() {
    SpouseTalk x = Tape.read(HOME);
    x.hire(0, 0);
    x.swear(0, true);
    x.weeks(2);
    x.tell(2, 10);
    x.hold(1);
    int moods = x.count(13);
    x.weeks(1);
    x.hire(1, 1);
    T.due("nothing held", x.restore(0), false);
    T.due("no such", x.restore(3), false);
    T.due("no such", x.restore(-1), false);
    T.due("nothing happened", x.count(3), 3);
    T.due("undo stays", x.count(9), 5);
    x.tell(2, 10);
    x.feed(0, 0, 0, 0, 0);
    T.due("restore", x.restore(1), true);
    T.due("week", x.count(3), 2);
    T.due("moods", x.count(13), moods);
    T.due("hired", x.couple(0, 2), 0);
    T.due("hired", x.couple(1, 2), -2);
    T.due("sworn", x.count(5), 1);
    T.due("nothing can be undone", x.count(9), 0);
    T.due("nothing can be undone", x.undo(), false);
    T.due("told stays", x.count(10), 2);
    T.due("the tape stays", x.count(8), 20);
    x.weeks(5);
    T.due("it stays there", x.restore(1), true);
    T.due("week", x.count(3), 2);
  }

  private static void p35Count() {
    SpouseTalk x = Tape.read(HOME);
    x.hire(0, 0);
    x.swear(0, true);
    x.weeks(1);
    x.weeks(1);
    x.hire(1, 1);
    x.hold(2);
    x.tell(1, 1);
    x.feed(0, 0, 0, 0, 0);
    // Week 0: sworn and not daring (love 0), 2 3 arrives; week 1: love 2, it dares.
    int[] due = {4, 2, 2, 2, 0, 1, 5, 5, 20, 5, 1, 1, 1, 0};
    for (int what = 0; what < 13; what++) T.due("count " + what, x.count(what), due[what]);
    T.due("all moods", x.count(13), x.spouse(0, 0) + x.spouse(1, 0) + x.spouse(2, 0) + x.spouse(3, 0));
    T.due("all moods", x.count(13), 50 - 6 + 39 + 3 + 58);
    for (int w : new int[] {-1, 14, Integer.MAX_VALUE, Integer.MIN_VALUE}) T.due("no such what", x.count(w), NONE);
    x = Tape.read("spouse a 9; spouse b 9; spouse c 1; spouse d 9; couple a b; couple c d;");
    x.weeks(1);
    T.due("parted ones", x.count(4), 2);
    T.due("spouses' moods, parted or not", x.count(13), 8 + 8 + 0 + 8);
  }

  public static void main(String[] args) {
    p1NewObject();
    p2Feed();
    p3Back();
    p4ReadForm();
    p4ReadRoom();
    p4ReadMeaning();
    p4ReadBegins();
    p4Laws();
    p5Place();
    p6Spouse();
    p7Couple();
    p8Third();
    p9Hire();
    p10Swear();
    p11Weeks();
    p12Undo();
    p13Bends();
    p14Heard();
    p15Chain();
    p16Say();
    p17Loses();
    p18Least();
    p19Truest();
    p20Crooked();
    p21Altered();
    p22Takes();
    p23Hires();
    p24Then();
    p25Paid();
    p26Parts();
    p27Oaths();
    p28Year();
    p29Tell();
    p30Forget();
    p31Who();
    p32Ask();
    p33Hold();
    p34Restore();
    p35Count();
    T.end();
  }
}
