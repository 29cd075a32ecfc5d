import java.util.ArrayList;
import java.util.List;

/**
 * The sentences of the document's "Terms" that name a boundary case, one method each: at the
 * bound, just inside it and just outside it. The sentence stands above its method.
 */
public final class BoundsTextTest {
  private static final Tape T = new Tape();
  private static final int NONE = SpouseTalk.NONE;
  private static final int SYNTAX = 1;
  private static final int ROOM = 2;
  private static final int TWICE = 3;
  private static final int NAME = 4;
  private static final int WRONG = 5;

  private static final String SIX = "spouse a 1;spouse b 1;spouse c 1;spouse d 1;spouse e 1;spouse f 1;";
  private static final String THREE = "couple a b;couple c d;couple e f;";
  private static final String FOUR = "third p 1 1;third q 1 1;third r 1 1;third s 1 1;";
  private static final String[] QUOTED = {"spouse", "couple", "third", "length", "says", "bends", "drops", "takes", "loves", "dares",
    "fine", "seed", "if", "then", "else", "word", "place", "mood", "tired", "love", "which", "week", "price", "fines"};
  private static final String[] LAWS = {"length", "says", "bends", "drops", "takes", "loves", "dares"};

  private static boolean isQuoted(String word) {
    return List.of(QUOTED).contains(word);
  }

  private static boolean isBlank(int b) {
    return b == 9 || b == 10 || b == 13 || b == 32;
  }

  private static boolean isLetter(int b) {
    return b >= 97 && b <= 122;
  }

  private static boolean isDigit(int b) {
    return b >= 48 && b <= 57;
  }

  // "A TEXT has 2,000 bytes at most."
  private static void textOf2000Bytes() {
    for (int size = 1998; size <= 2000; size++) {
      String told = "spouse a 7;";
      SpouseTalk x = Tape.read(" ".repeat(size - told.length()) + told);
      T.due("told by the last of " + size + " bytes", x.spouse(0, 0), 7);
      T.fault(" ".repeat(size - 1) + "#", SYNTAX, size - 1);
      T.fault(" ".repeat(size - 4) + "fine", SYNTAX, size);
      T.good("fine 1;" + " ".repeat(size - 7));
    }
    SpouseTalk x = new SpouseTalk();
    Tape.feed(x, " ".repeat(1989) + "spouse a 8;");
    T.due("no 2,001st byte", x.feed(0x23232323, 0x23232323, 0x23232323, 0x23232323, 0x23232323), NONE);
    T.due("2,000 bytes", x.count(8), 2000);
    T.due("none came", x.read(), 0);
    T.due("the text as it was", x.spouse(0, 0), 8);
  }

  // "TOKENS, the longest that can be"
  private static void tokensAreTheLongest() {
    T.good("spouse ifs 1;");
    T.good("spouse i 1;");
    T.fault("spouse if 1;", SYNTAX, 7);
    T.fault("spousea 1;", SYNTAX, 0);
    T.fault("fines 1;", SYNTAX, 0);
    T.good("says=word;");
    T.fault("says=words;", SYNTAX, 5);
    T.fault("says=wor;", SYNTAX, 5);
    T.good("bends=love;");
    T.fault("bends=loves;", SYNTAX, 6);
    T.good("dares=fines;");
    T.fault("dares=fine;", SYNTAX, 6);
    T.good("says=if1<2then3else4;");
    T.fault("says=if1<2then3elseweek;", SYNTAX, 15);
    T.fault("says=if1<2then3elsewhich;", SYNTAX, 15);
    T.due("12 is one INT", Tape.read("spouse a12;").spouse(0, 0), 12);
    T.fault("spouse a1 2;", SYNTAX, 10);
  }

  // "with blanks (9, 10, 13, 32) between or not": each byte, between two TOKENS and at the ends
  private static void blanksBetweenOrNot() {
    for (int b = 0; b < 256; b++) {
      boolean fits = isBlank(b) || isDigit(b);
      T.fault("fine" + (char) b + "7;", fits ? 0 : SYNTAX, fits ? NONE : isLetter(b) ? 0 : 4);
      T.fault("" + (char) b, isBlank(b) ? 0 : SYNTAX, isBlank(b) ? NONE : 0);
      T.fault("fine 7;" + (char) b, isBlank(b) ? 0 : SYNTAX, isBlank(b) ? NONE : 7);
      boolean in = isLetter(b) || isBlank(b);
      T.fault("spouse a" + (char) b + " 1;", in ? 0 : SYNTAX, in ? NONE : isDigit(b) ? 10 : 8);
    }
    T.good("spouse a1;spouse b2;couple a b;third t1 2;says=if(1)<2then 3+4-5else 6*7/8;fine 9;seed 1;");
    T.good("\n\rspouse\ta\n1\r;\tspouse b\r\n2 \t; couple\na\tb\r; third\rt\t1\n2;\nsays\t=\r1\n;fine\n9\t;seed\r1 ; ");
    T.fault("fi ne 7;", SYNTAX, 0);
    T.fault("fine 1 2;", SYNTAX, 7);
    T.fault("third t12;", SYNTAX, 9);
  }

  // "NAMES (letters a .. z, 8 at most, ..)"
  private static void namesOfEightLetters() {
    for (int size = 1; size <= 12; size++) {
      String name = "abcdefghijkl".substring(0, size);
      T.fault("spouse " + name + " 1;", size <= 8 ? 0 : SYNTAX, size <= 8 ? NONE : 7);
      T.fault("third " + name + " 1 1;", size <= 8 ? 0 : SYNTAX, size <= 8 ? NONE : 6);
      T.fault("spouse " + "z".repeat(size) + " 1;", size <= 8 ? 0 : SYNTAX, size <= 8 ? NONE : 7);
      T.fault("couple " + name + " " + name + ";", size <= 8 ? NAME : SYNTAX, 7);
    }
    T.good("spouse azazazaz 1;");
    for (String none : new String[] {"`", "{", "A", "Z", "@", "[", "_", "aB", "Ab", "a`", "z{"}) {
      T.fault("spouse " + none + " 1;", SYNTAX, none.length() > 1 && isLetter(none.charAt(0)) ? 8 : 7);
    }
    // All eight letters make a NAME.
    T.good("spouse aaaaaaaa 1;spouse aaaaaaab 1;spouse baaaaaaa 1;spouse aaaaaaa 1;spouse a 1;spouse aa 1;");
    T.good("spouse zzzzzzzz 1;spouse zzzzzzzy 1;spouse yzzzzzzz 1;spouse zzzzzzz 1;spouse z 1;spouse zz 1;");
    T.fault("spouse zzzzzzzz 1;spouse zzzzzzzz 1;", TWICE, 25);
    SpouseTalk x = Tape.read("spouse abcdefgh 1;spouse abcdefgi 2;spouse bbcdefgh 3;spouse abcdefg 4;couple bbcdefgh abcdefg;couple abcdefgi abcdefgh;");
    T.due("the NAME as a whole", x.couple(0, 0), 2);
    T.due("the NAME as a whole", x.couple(0, 1), 3);
    T.due("the NAME as a whole", x.couple(1, 0), 1);
    T.due("the NAME as a whole", x.couple(1, 1), 0);
  }

  // "none of the words in quotes"
  private static void namesAreNoWordsInQuotes() {
    for (String word : QUOTED) {
      T.fault("spouse " + word + " 1;", SYNTAX, 7);
      T.fault("third " + word + " 1 1;", SYNTAX, 6);
      T.fault("couple " + word + " a;", SYNTAX, 7);
      T.fault("couple a " + word + ";", SYNTAX, 9);
      String less = word.substring(0, word.length() - 1);
      T.fault("spouse " + less + " 1;", isQuoted(less) ? SYNTAX : 0, isQuoted(less) ? 7 : NONE);
      String more = word + "s";
      T.fault("spouse " + more + " 1;", isQuoted(more) ? SYNTAX : 0, isQuoted(more) ? 7 : NONE);
      T.good("spouse x" + word + " 1;");
    }
    for (String name : new String[] {"text", "tell", "law", "e", "part", "unit", "var", "name", "int"}) T.good("third " + name + " 1 1;");
  }

  // "INTS (1 to 4 digits)"
  private static void intsOfFourDigits() {
    for (String number : new String[] {"0", "9", "10", "99", "100", "999", "1000", "9999", "00", "000", "0000", "0001"}) {
      T.good("seed " + number + ";");
      T.good("says=" + number + ";");
    }
    for (String number : new String[] {"00000", "00001", "10000", "99999", "123456", "9999999999"}) {
      T.fault("seed " + number + ";", SYNTAX, 5);
      T.fault("says=" + number + ";", SYNTAX, 5);
      T.fault("spouse a " + number + ";", SYNTAX, 9);
    }
    T.fault("seed ;", SYNTAX, 5);
    for (String none : new String[] {":", "/", "-1", "+1", "a"}) T.fault("seed " + none + ";", SYNTAX, 5);
    T.due("0007 is 7", Tape.read("spouse a 0007;").spouse(0, 0), 7);
    String just = "spouse a 1;length=1;says=if X<1234 then 1 else if 1234<X then 2 else 3;";
    T.due("1233", Tape.read(just.replace("X", "1233")).spouse(0, 2), Tape.row(1));
    T.due("1234", Tape.read(just.replace("X", "1234")).spouse(0, 2), Tape.row(3));
    T.due("1235", Tape.read(just.replace("X", "1235")).spouse(0, 2), Tape.row(2));
  }

  // "A longer one, all else, is no TOKEN."
  private static void longerOnesAreNoTokens() {
    // The place is the first byte of the longer one, wherever it stands and how long it is.
    T.fault("abcdefghi", SYNTAX, 0);
    T.fault("spouse" + "e".repeat(3) + " a 1;", SYNTAX, 0);
    T.fault("fine 00005;", SYNTAX, 5);
    T.fault("fine 1;" + "9".repeat(1993), SYNTAX, 7);
    T.fault("fine 1;" + "q".repeat(1993), SYNTAX, 7);
    for (int b = 0; b < 256; b++) {
      if (isBlank(b) || isLetter(b) || isDigit(b)) continue;
      boolean joins = "+-*/".indexOf(b) >= 0;
      T.fault("says=1" + (char) b + "1;", joins ? 0 : SYNTAX, joins ? NONE : b == ';' ? 7 : 6);
    }
  }

  private static String join(List<String> tokens) {
    return String.join(" ", tokens);
  }

  private static List<String> tellsByTokens() {
    List<String> all = new ArrayList<>(List.of("spouse a 1 ;", "couple a b ;", "third t 1 1 ;", "fine 1 ;", "seed 1 ;",
        "says = if 1 < 2 then 3 else 4 ;", "bends = ( word + 2 ) * 3 ;", "takes = if ( 1 ) < mood then 2 else if week < 1 then 1 else 0 ;"));
    for (String law : LAWS) all.add(law + " = 1 ;");
    return all;
  }

  // "1 SYNTAX: a TOKEN, or what is none, with which no text goes on." at each TOKEN of each TELL
  private static void syntaxAtEachToken() {
    List<String> others = new ArrayList<>(List.of(QUOTED));
    others.addAll(List.of("a", "1", ";", "=", "+", "-", "*", "/", "<", "(", ")", "#", "abcdefghi", "12345"));
    for (String tell : tellsByTokens()) {
      List<String> tokens = List.of(tell.split(" "));
      for (int i = 0; i < tokens.size(); i++) {
        for (String other : others) {
          List<String> changed = new ArrayList<>(tokens);
          changed.set(i, other);
          syntaxAsTheGrammarTells(join(changed));
          changed.add(i, tokens.get(i));
          syntaxAsTheGrammarTells(join(changed));
        }
        List<String> less = new ArrayList<>(tokens);
        less.remove(i);
        syntaxAsTheGrammarTells(join(less));
      }
    }
  }

  private static void syntaxAsTheGrammarTells(String text) {
    SpouseTalk x = new SpouseTalk();
    Tape.feed(x, text);
    int place = Model.syntaxPlace(text, Model.tokens(text));
    int got = x.read();
    T.due("SYNTAX of " + text, got == SYNTAX, place >= 0);
    if (place >= 0) T.due("place of " + text, x.place(), place);
  }

  // "(a byte; the text's end: its length)"
  private static void theEndIsTheLength() {
    for (String tell : tellsByTokens()) {
      List<String> tokens = List.of(tell.split(" "));
      for (int n = 1; n < tokens.size(); n++) {
        String start = join(tokens.subList(0, n));
        T.fault(start, SYNTAX, start.length());
        T.fault(start + " \n", SYNTAX, start.length() + 2);
        T.fault("fine 1;" + start, SYNTAX, start.length() + 7);
      }
    }
    T.good("");
    T.good(" ");
    T.fault(" f", SYNTAX, 1);
  }

  // "text: {TELL}." none of them, one, many
  private static void anyNumberOfTells() {
    T.good("");
    T.good("fine 1;");
    T.good("fine 1;".repeat(133));
    T.good("seed 1;".repeat(133));
    T.good("says=1;".repeat(100));
    T.fault(";", SYNTAX, 0);
    T.fault("fine 1;;", SYNTAX, 7);
  }

  // "SPOUSES, 6 at most", "COUPLES, 3 at most", "THIRDS, .. 4 at most"; "one more of a sort than told (at its first TOKEN)"
  private static void roomOfEachSort() {
    SpouseTalk x = Tape.read(SIX + THREE + FOUR);
    T.due("six", x.count(0), 6);
    T.due("three", x.count(1), 3);
    T.due("four", x.count(2), 4);
    x = Tape.read("third p 1 1;spouse a 1;third q 1 1;spouse b 1;couple b a;third r 1 1;spouse c 1;spouse d 1;third s 1 1;couple c d;spouse e 1;spouse f 1;couple f e;");
    T.due("six, mixed", x.count(0), 6);
    T.due("three, mixed", x.count(1), 3);
    T.due("four, mixed", x.count(2), 4);
    String five = SIX.substring(0, SIX.length() - 11);
    T.good(five);
    for (String rest : new String[] {"spouse g 1;", "spouse", "spouse spouse", "spouse a 100;", "spouse 1"}) T.fault(SIX + rest, ROOM, SIX.length());
    String full = SIX + THREE + FOUR;
    for (String rest : new String[] {"couple a b;", "couple x y;", "couple", "couple 1"}) T.fault(full + rest, ROOM, full.length());
    for (String rest : new String[] {"third t 1 1;", "third p 1 1;", "third", "third third", "third t 10 100;"}) T.fault(full + rest, ROOM, full.length());
    for (String rest : new String[] {"spouse g 1;", "  spouse g 1;"}) T.fault(full + rest, ROOM, full.length() + rest.indexOf('s'));
    // Ones with a FAULT of their own take room, too.
    T.fault("spouse a 1;".repeat(6), TWICE, 18);
    T.fault("spouse a 1;".repeat(7), ROOM, 66);
    T.fault("spouse a 999;".repeat(7), ROOM, 78);
    T.fault("third a 1 1;".repeat(4), TWICE, 18);
    T.fault("third a 1 1;".repeat(5), ROOM, 48);
    T.fault("couple x y;".repeat(3), NAME, 7);
    T.fault("couple x y;".repeat(4), ROOM, 33);
    // Of the other sorts there may be more.
    T.good("fine 1;".repeat(20) + "seed 1;".repeat(20) + "says=1;".repeat(20));
  }

  private static int placeOfToken(String text, int number) {
    return Model.tokens(text).get(number - 1).place();
  }

  /** TELLS of so many TOKENS, 12 or more, all together. */
  private static String filler(int tokens) {
    int rest = tokens % 3;
    return "fine 1;".repeat((tokens - 4 * rest) / 3) + "says=1;".repeat(rest);
  }

  // "2 ROOM: a 401st TOKEN"
  private static void tokens400() {
    for (int n = 398; n <= 410; n++) {
      String text = filler(n);
      T.due("so many tokens", Model.tokens(text).size(), n);
      T.fault(text, n <= 400 ? 0 : ROOM, n <= 400 ? NONE : placeOfToken(text, 401));
      T.fault(text + " \t\r\n", n <= 400 ? 0 : ROOM, n <= 400 ? NONE : placeOfToken(text, 401));
    }
    // Each TOKEN of each TELL is the 401st once.
    for (String tell : tellsByTokens()) {
      List<String> tokens = List.of(tell.split(" "));
      for (int i = 0; i < tokens.size(); i++) {
        String ahead = filler(400 - i) + join(tokens.subList(0, i)) + " ";
        T.fault(ahead + join(tokens.subList(i, tokens.size())), ROOM, ahead.length());
        T.fault(ahead + tokens.get(i), ROOM, ahead.length());
        T.fault(ahead + tokens.get(i) + " ?", ROOM, ahead.length());
        T.fault(ahead + "? ;", SYNTAX, ahead.length());
        if (i > 0) T.fault(ahead, SYNTAX, ahead.length());
      }
    }
    // A sum of one byte a TOKEN: 399, 400, 401 of them and the text's end behind each.
    String sum = "says=1" + "+1".repeat(198);
    T.fault(sum, SYNTAX, sum.length());
    T.good(sum + ";");
    T.fault(sum + "+", SYNTAX, sum.length() + 1);
    T.fault(sum + "+1", ROOM, sum.length() + 1);
    T.fault(sum + "+1;", ROOM, sum.length() + 1);
    T.fault(sum + "+11111", SYNTAX, sum.length() + 1);
    T.fault(sum + "+;", SYNTAX, sum.length() + 1);
    T.fault(sum.replace("says=1", "says=?") + "+1;", SYNTAX, 5);
    T.fault("says=1" + "+1".repeat(997), ROOM, sum.length() + 1);
    String told = "spouse a 1;length=1;says=1" + "+1".repeat(194) + ";";
    T.due("all of 400 TOKENS are read", Tape.read(told).spouse(0, 2), Tape.row(195 % 8));
  }

  // The 401st TOKEN that is one too many of its sort, a 5th if or a 7th (, too: ROOM at it, all the same.
  private static void tokens400AndOtherRoom() {
    String ifs = "says=" + "if 1<2 then 3 else ".repeat(4);
    String[] starts = {SIX, SIX + THREE, FOUR, ifs, "says=1+(((((("};
    String[] lasts = {"spouse", "couple", "third", "if", "("};
    for (int i = 0; i < starts.length; i++) {
      for (int had = 399; had <= 401; had++) {
        String text = filler(had - Model.tokens(starts[i]).size()) + starts[i];
        T.fault(text + lasts[i], ROOM, had > 400 ? placeOfToken(text, 401) : text.length());
      }
    }
  }

  // "a 5th if of a LAW (at it)"
  private static void ifsOfALaw() {
    String one = "if 1<2 then 3 else ";
    for (String law : LAWS) {
      String start = law + "=";
      for (int n = 0; n <= 4; n++) T.good(start + one.repeat(n) + "5;");
      T.fault(start + one.repeat(5) + "5;", ROOM, start.length() + 4 * one.length());
      T.fault(start + one.repeat(4) + "if", ROOM, start.length() + 4 * one.length());
      T.fault(start + one.repeat(4) + "if if", ROOM, start.length() + 4 * one.length());
      T.fault(start + one.repeat(6) + "5;", ROOM, start.length() + 4 * one.length());
      T.fault(start + one.repeat(4) + "5 if", SYNTAX, start.length() + 4 * one.length() + 2);
      T.fault(start + one.repeat(4) + "(if", SYNTAX, start.length() + 4 * one.length() + 1);
      T.fault(start + one.repeat(4) + "if;", ROOM, start.length() + 4 * one.length());
    }
    String four = "=" + one.repeat(4) + "5;";
    T.good("length" + four + "says" + four + "bends" + four + "drops" + four);
    T.good("says" + four + "says" + four);
    // The fourth one is asked, too.
    T.due("4th if", Tape.read("spouse a 1;length=1;says=" + "if 2<1 then 3 else ".repeat(3) + "if 1<2 then 6 else 5;").spouse(0, 2), Tape.row(6));
    T.due("else", Tape.read("spouse a 1;length=1;says=" + "if 2<1 then 3 else ".repeat(4) + "5;").spouse(0, 2), Tape.row(5));
  }

  // "a 7th ( within one another (at it)"
  private static void parenthesesWithinOneAnother() {
    for (int n = 0; n <= 9; n++) {
      String nest = "(".repeat(n) + "5" + ")".repeat(n);
      String[] texts = {"says=" + nest + ";", "says=1+" + nest + ";", "says=1*" + nest + ";", "says=(1)+(2)-" + nest + ";", "says=if " + nest + "<1 then 2 else 3;",
        "says=if 1<" + nest + " then 2 else 3;", "says=if 1<2 then " + nest + " else 3;", "says=if 1<2 then 3 else " + nest + ";"};
      for (String text : texts) T.fault(text, n <= 6 ? 0 : ROOM, n <= 6 ? NONE : text.indexOf(nest) + 6);
    }
    String six = "((((((5))))))";
    T.good("says=" + six + "+" + six + "*" + six + ";");
    T.good("says=if " + six + "<" + six + " then " + six + " else if " + six + "<" + six + " then " + six + " else " + six + ";");
    T.good("says=" + six + ";bends=" + six + ";");
    T.good("says=((((((1)+(2))*(3))-(4))/(5))+(6));");
    T.fault("says=((((((1+((", ROOM, 13);
    T.fault("says=((((((1)+(2)*((3", ROOM, 19);
    T.fault("says=((((((1((", SYNTAX, 12);
    T.fault("says=((((((1)(", SYNTAX, 13);
    T.fault("says=(((((((", ROOM, 11);
    T.fault("says=((((((", SYNTAX, 11);
    T.fault("says=(((((((;", ROOM, 11);
    T.due("six deep", Tape.read("spouse a 1;length=1;says=(1+(1+(1+(1+(1+(1+1))))));").spouse(0, 2), Tape.row(7));
    T.due("all left open", Tape.read("spouse a 1;length=1;says=if 1<9+8*(1+1*(1+1*(1+1*(1+1*(1+1*(1+1*2)))))) then 3 else 4;").spouse(0, 2), Tape.row(3));
  }

  // "FAULTS of a text, the first by its place"
  private static void theFirstFaultByItsPlace() {
    T.fault(SIX + "spouse g 1;?", ROOM, 66);
    T.fault(SIX + "?spouse g 1;", SYNTAX, 66);
    T.fault("says=(((((((1)))))));?", ROOM, 11);
    T.fault("?says=(((((((1)))))));", SYNTAX, 0);
    T.fault("says=(((((((1)))))));" + SIX + "spouse g 1;", ROOM, 11);
    T.fault(SIX + "spouse g 1;" + "says=(((((((1)))))));", ROOM, 66);
    T.fault("fine 100;spouse a 1;spouse a 1;", WRONG, 5);
    T.fault("spouse a 1;spouse a 100;", TWICE, 18);
    T.fault("spouse a 100;spouse a 1;", WRONG, 9);
    T.fault("couple x y;fine 100;", NAME, 7);
    T.fault("fine 100;couple x y;", WRONG, 5);
    T.fault("spouse a 1;couple a x;couple a a;", NAME, 20);
    T.fault("spouse a 1;couple a a;couple x x;", TWICE, 20);
    T.fault("third a 10 100;", WRONG, 8);
    T.fault("third a 9 100;", WRONG, 10);
    T.fault("spouse a 1;third a 10 1;", TWICE, 17);
  }

  // "of one place the least"
  private static void ofOnePlaceTheLeast() {
    // A TOKEN with which no text goes on and for which there is no room.
    T.fault(SIX + "fine spouse", SYNTAX, 71);
    T.fault(SIX + "spouse a spouse", ROOM, 66);
    T.fault("says=((((((1(", SYNTAX, 12);
    T.fault("says=" + "if 1<2 then 3 else ".repeat(4) + "4 if", SYNTAX, 5 + 76 + 2);
    String sum = "says=1" + "+1".repeat(198) + ";";
    T.fault(sum + "a", SYNTAX, sum.length());
    T.fault(sum + "fine", ROOM, sum.length());
    T.fault(sum + "if", SYNTAX, sum.length());
    T.fault(sum + "(", SYNTAX, sum.length());
    T.fault(sum + ((char) 255), SYNTAX, sum.length());
    T.fault(sum + "0", SYNTAX, sum.length());
    // A NAME that is TWICE is never one of no SPOUSE as well: one with itself that nobody is called.
    T.fault("couple x x;", NAME, 7);
    T.fault("spouse a 1;couple x x;couple a a;", NAME, 18);
  }

  // "If there is none, likewise": FAULTS 3, 4, 5 only of a text without 1 and 2
  private static void meaningOnlyWithoutFormFaults() {
    String[] wrongs = {"spouse a 1;third a 1 1;", "couple x y;", "fine 100;", "spouse a 100;"};
    for (String wrong : wrongs) {
      T.fault(wrong + "?", SYNTAX, wrong.length());
      T.fault(wrong + "fine", SYNTAX, wrong.length() + 4);
      T.fault(wrong + "says=(((((((1)))))));", ROOM, wrong.length() + 11);
      String more = wrong + "fine 1;".repeat(132);
      T.fault(more + "seed 1;seed 1;", ROOM, placeOfToken(more + "seed 1;seed 1;", 401));
    }
  }

  // "3 TWICE: a NAME told already (all together)"
  private static void namesToldTwice() {
    T.fault("spouse a 1;spouse a 1;", TWICE, 18);
    T.fault("third a 1 1;third a 1 1;", TWICE, 18);
    T.fault("spouse a 1;third a 1 1;", TWICE, 17);
    T.fault("third a 1 1;spouse a 1;", TWICE, 19);
    T.good("spouse a 1;third b 1 1;spouse c 1;third d 1 1;");
    // The last of all is looked at beside the first and the one ahead.
    String nine = "spouse a 1;spouse b 1;spouse c 1;spouse d 1;spouse e 1;spouse f 1;third p 1 1;third q 1 1;third r 1 1;";
    T.good(nine + "third s 1 1;");
    for (String name : new String[] {"a", "b", "c", "d", "e", "f", "p", "q", "r"}) T.fault(nine + "third " + name + " 1 1;", TWICE, nine.length() + 6);
    // A COUPLE has no NAME of its own.
    T.good("spouse a 1;spouse b 1;couple a b;third c 1 1;");
  }

  // "(at it) a SPOUSE in a COUPLE already, one with itself"
  private static void spousesInTwoCouples() {
    String four = "spouse a 1;spouse b 1;spouse c 1;spouse d 1;couple a b;";
    T.good(four + "couple c d;");
    T.good(four + "couple d c;");
    T.fault(four + "couple a c;", TWICE, four.length() + 7);
    T.fault(four + "couple b c;", TWICE, four.length() + 7);
    T.fault(four + "couple c a;", TWICE, four.length() + 9);
    T.fault(four + "couple c b;", TWICE, four.length() + 9);
    T.fault(four + "couple a b;", TWICE, four.length() + 7);
    T.fault(four + "couple b a;", TWICE, four.length() + 7);
    T.fault(four + "couple c c;", TWICE, four.length() + 9);
    T.fault(four + "couple a a;", TWICE, four.length() + 7);
    T.fault("spouse a 1;couple a a;", TWICE, 20);
  }

  // "4 NAME: (at it) no such SPOUSE told ahead (a NAME told more than once is that of the first one)"
  private static void noSuchSpouseAhead() {
    T.fault("couple a b;spouse a 1;spouse b 1;", NAME, 7);
    T.fault("spouse a 1;couple a b;spouse b 1;", NAME, 20);
    T.fault("spouse b 1;couple a b;spouse a 1;", NAME, 18);
    T.good("spouse a 1;spouse b 1;couple a b;");
    T.fault("third t 1 1;spouse a 1;couple a t;", NAME, 32);
    T.fault("third t 1 1;spouse a 1;couple t a;", NAME, 30);
    T.fault("spouse aa 1;spouse b 1;couple a b;", NAME, 30);
    T.fault("spouse a 1;spouse b 1;couple a bb;", NAME, 31);
    // Told as a THIRD first: TWICE stands ahead of the COUPLE, whoever is meant there.
    T.fault("third a 1 1;spouse a 1;spouse b 1;couple a b;", TWICE, 19);
    T.fault("spouse a 1;third a 1 1;spouse b 1;couple a b;", TWICE, 17);
  }

  // "MOOD 0 .. 99", "PRICE of a word 0 .. 9", "TIRED 0 .. 99", "FINE 0 .. 99", "SEED 0 .. 9999"; "5 WRONG (at the INT)"
  private static void numbersNotAsTold() {
    for (int n : new int[] {0, 1, 9, 10, 11, 98, 99, 100, 101, 999, 1000, 9999}) {
      T.fault("spouse a " + n + ";", n <= 99 ? 0 : WRONG, n <= 99 ? NONE : 9);
      T.fault("third a " + n + " 1;", n <= 9 ? 0 : WRONG, n <= 9 ? NONE : 8);
      T.fault("third a 1 " + n + ";", n <= 99 ? 0 : WRONG, n <= 99 ? NONE : 10);
      T.fault("fine " + n + ";", n <= 99 ? 0 : WRONG, n <= 99 ? NONE : 5);
      T.good("seed " + n + ";");
      T.good("says=" + n + ";");
    }
    T.good("spouse a 0099;third b 0009 0099;fine 0099;seed 0000;");
    T.fault("spouse a 0100;", WRONG, 9);
    T.fault("third b 0010 0099;", WRONG, 8);
    T.fault("third b 0009 0100;", WRONG, 13);
    SpouseTalk x = Tape.read("spouse a 0;spouse b 99;third t 0 0;third u 9 99;");
    T.due("MOOD 0", x.spouse(0, 0), 0);
    T.due("MOOD 99", x.spouse(1, 0), 99);
    T.due("PRICE 0", x.third(0, 0), 0);
    T.due("PRICE 9", x.third(1, 0), 9);
    T.due("TIRED 0", x.third(0, 1), 0);
    T.due("TIRED 99", x.third(1, 1), 99);
  }

  // "numbered each from 0 on as they stand"
  private static void numberedAsTheyStand() {
    SpouseTalk x = Tape.read("third p 1 10;spouse a 10;third q 2 20;spouse b 20;spouse c 30;couple c a;third r 3 30;spouse d 40;couple b d;spouse e 50;third s 4 40;spouse f 60;couple f e;");
    for (int i = 0; i < 6; i++) T.due("spouse " + i, x.spouse(i, 0), 10 + 10 * i);
    for (int i = 0; i < 4; i++) T.due("price " + i, x.third(i, 0), 1 + i);
    for (int i = 0; i < 4; i++) T.due("tired " + i, x.third(i, 1), 10 + 10 * i);
    int[] pairs = {2, 0, 1, 3, 5, 4};
    for (int i = 0; i < 6; i++) T.due("pair " + i, x.couple(i / 2, i % 2), pairs[i]);
    int[] couples = {0, 1, 0, 1, 2, 2};
    for (int i = 0; i < 6; i++) T.due("couple of " + i, x.spouse(i, 1), couples[i]);
  }

  // "LAWS: LENGTH (2), SAYS (place), BENDS (word), DROPS (0), TAKES (0), LOVES (0), DARES (0), if not told; the last one. FINE .. (10), SEED .. (0): the last one."
  private static void ifNotToldAndTheLastOne() {
    String home = "spouse a 50;spouse b 50;couple a b;third t 1 0;";
    SpouseTalk x = Tape.read(home);
    x.hire(0, 0);
    x.swear(0, true);
    T.due("LENGTH 2, SAYS place", x.spouse(0, 2), Tape.row(0, 1));
    for (int w = 0; w < 8; w++) for (int at = 0; at < 5; at++) T.due("BENDS word", x.bends(0, w, at), w);
    T.due("TAKES 0", x.takes(1, Tape.row(7, 6, 5, 4, 3)), 50);
    T.due("DARES 0", x.third(0, 7), 0);
    x.weeks(60);
    T.due("DROPS 0", x.count(7), 120);
    T.due("LOVES 0", x.third(0, 2), 0);
    x = Tape.read(home + "dares=1;bends=8;");
    fineDue(x, 10);
    fineDue(Tape.read(home + "dares=1;bends=8;fine 0;"), 0);
    fineDue(Tape.read(home + "dares=1;bends=8;fine 99;"), 99);
    fineDue(Tape.read(home + "fine 99;dares=1;bends=8;fine 3;"), 3);
    fineDue(Tape.read("fine 3;" + home + "dares=1;bends=8;fine 99;fine 0;"), 0);
    x = Tape.read("length=5;says=1;" + home + "length=1;says=2;says=3;");
    T.due("the last LENGTH, SAYS", x.spouse(0, 2), Tape.row(3));
    x = Tape.read("bends=8;takes=1;dares=1;bends=0;takes=2;dares=0;" + home);
    T.due("the last BENDS", x.bends(0, 5, 0), 0);
    T.due("the last TAKES", x.takes(0, Tape.row(0)), 52);
    T.due("the last DARES", x.third(0, 7), 0);
    x = Tape.read("drops=0;loves=1;drops=100;loves=2;" + home);
    x.hire(0, 0);
    x.weeks(1);
    T.due("the last DROPS", x.count(7), 0);
    T.due("the last LOVES", x.third(0, 2), 2);
    seedDue("", 0);
    seedDue("seed 0;", 0);
    seedDue("seed 9999;", 9999);
    seedDue("seed 9999;seed 17;", 17);
    seedDue("seed 17;seed 9999;", 9999);
    seedDue("seed 17;seed 0;", 0);
  }

  private static void fineDue(SpouseTalk x, int fine) {
    x.hire(0, 0);
    x.swear(0, true);
    x.weeks(1);
    T.due("FINE " + fine, x.third(0, 4), 2 - fine);
    T.due("fined", x.third(0, 5), 1);
  }

  private static void seedDue(String seeds, int seed) {
    SpouseTalk x = Tape.read("spouse a 50;spouse b 50;couple a b;third t 1 0;length=5;drops=50;" + seeds);
    x.hire(0, 0);
    int heard = 0;
    for (int week = 0; week < 8; week++) {
      for (int i = 0; i < 5; i++) heard += Model.lot(100, seed, 256 * week + i) < 50 ? 0 : 1;
      x.weeks(1);
      T.due("by " + seeds + " in week " + week, x.count(7), heard);
    }
  }

  // "WORDS are 0 .. 7; a ROW of 0 to 5 of them is told as one number: 1, then each WORD, 8 to the place."
  private static void rowsAsNumbers() {
    SpouseTalk x = Tape.read("spouse a 50;spouse b 50;couple a b;third t 1 0;");
    int[] firsts = {1, 8, 64, 512, 4096, 32768};
    for (int first : firsts) {
      for (int row : new int[] {first, 2 * first - 1}) {
        T.due("heard " + row, x.heard(0, row), row);
        T.due("chain " + row, x.chain(0, 0, row), row);
        T.due("say " + row, x.say(0, row), row < 8192 ? row : -2);
        T.due("loses " + row, x.loses(0, 0, row), 0);
        T.due("least " + row, x.least(row), 0);
        T.due("truest " + row, x.truest(row), 0);
        T.due("altered " + row, x.altered(row, row), 0);
        T.due("takes " + row, x.takes(0, row), 50);
      }
      for (int row : new int[] {first - 1, 2 * first}) noRow(x, row);
    }
    SpouseTalk y = Tape.read("spouse a 50;spouse b 50;couple a b;third t 1 0;");
    for (int row : new int[] {0, -1, -8, -65535, Integer.MIN_VALUE, Integer.MAX_VALUE, 1 << 18, 1 << 30, 262144, 524287}) noRow(y, row);
  }

  private static void noRow(SpouseTalk x, int row) {
    T.due("heard " + row, x.heard(0, row), NONE);
    T.due("chain " + row, x.chain(0, 0, row), NONE);
    T.due("say " + row, x.say(0, row), NONE);
    T.due("loses " + row, x.loses(0, 0, row), NONE);
    T.due("least " + row, x.least(row), NONE);
    T.due("truest " + row, x.truest(row), NONE);
    T.due("altered " + row, x.altered(row, 1), NONE);
    T.due("altered by " + row, x.altered(1, row), NONE);
    T.due("takes " + row, x.takes(0, row), NONE);
    T.due("tell " + row, x.tell(0, row), NONE);
  }

  private static final String LIVED = "spouse a 50;spouse b 60;spouse c 2;spouse d 70;couple a b;couple c d;third t 3 10;third u 4 20;"
      + "length=3;says=place+1;bends=word+1;takes=word-3;loves=2;dares=1;fine 7;seed 5;";

  private static SpouseTalk lived() {
    SpouseTalk x = Tape.read(LIVED);
    x.hire(0, 0);
    x.swear(0, true);
    x.weeks(3);
    for (int slot = 0; slot < 3; slot++) x.hold(slot);
    x.tell(2, Tape.row(3));
    x.weeks(1);
    return x;
  }

  // "A text with a FAULT changes nothing but the tape"
  private static void aFaultChangesNothing() {
    String[] texts = {"spouse z 1;?", SIX + "spouse z 1;", "spouse z 1;spouse z 1;", "spouse z 1;couple z y;", "spouse z 100;", "fine 3;seed 4;length=1;says=5;bends=0;takes=9;dares=0;loves=9;couple"};
    int[] faults = {SYNTAX, ROOM, TWICE, NAME, WRONG, SYNTAX};
    for (int i = 0; i < texts.length; i++) {
      SpouseTalk x = lived();
      String ahead = Tape.all(x);
      Tape.feed(x, texts[i]);
      T.due("bytes on the tape", x.count(8), texts[i].length());
      T.due("read of " + texts[i], x.read(), faults[i]);
      T.same("behind " + texts[i], Tape.all(x), ahead);
      T.due("TOLD stays", x.who(1), 3);
      T.due("BENDS stays", x.bends(1, 2, 0), 3);
      T.due("TAKES stays", x.takes(0, Tape.row(7)), x.spouse(0, 0) + 4);
      x.weeks(1);
      SpouseTalk y = lived();
      y.weeks(1);
      T.same("goes on as ever", Tape.all(x), Tape.all(y));
      T.due("undo", x.undo(), true);
      T.due("undo", x.undo(), true);
      T.due("week", x.count(3), 3);
      T.due("held", x.restore(1), true);
    }
  }

  // "else it is in place of the one ahead: week 0, nobody hired, nobody sworn, no love, nothing paid; nothing can be undone, nothing is TOLD, SLOTS hold nothing."
  private static void aTextInPlaceOfTheOneAhead() {
    for (String text : new String[] {LIVED, "", "spouse a 1;", "third t 1 1;", SIX + THREE + FOUR, "spouse a 50;spouse b 50;couple a b;third t 1 2;"}) {
      SpouseTalk x = lived();
      T.due("TOLD", x.count(10), 1);
      T.due("things done", x.count(9), 4);
      T.due("PARTED", x.count(4), 2);
      Tape.feed(x, text);
      T.due("read of " + text, x.read(), 0);
      SpouseTalk y = Tape.read(text);
      T.same("as new: " + text, Tape.all(x), Tape.all(y));
      T.due("week 0", x.count(3), 0);
      T.due("nothing can be undone", x.undo(), false);
      T.due("nothing is TOLD", x.forget(), 0);
      for (int slot = 0; slot < 3; slot++) T.due("nothing is held", x.restore(slot), false);
      T.due("nobody PARTED", x.count(4), 0);
      x.hire(0, 0);
      y.hire(0, 0);
      x.weeks(5);
      y.weeks(5);
      T.same("goes on as new: " + text, Tape.all(x), Tape.all(y));
    }
  }

  // LAWS, FINE and SEED of the text ahead are gone with it, too, whether that one had a FAULT or not.
  private static void nothingIsLeftOfTheTextAhead() {
    String all = "length=1;says=7;bends=word+2;drops=9;takes=5;loves=4;dares=0-1;fine 77;seed 55;";
    String[] later = {"", "drops=50;length=5;", "bends=8;dares=1;", "length=5;bends=word+1;dares=1;drops=30;"};
    for (String rest : later) {
      for (String ahead : new String[] {all, all + "fine 100;", all + "?"}) {
        SpouseTalk x = new SpouseTalk();
        Tape.feed(x, ahead);
        x.read();
        SpouseTalk y = new SpouseTalk();
        for (SpouseTalk each : new SpouseTalk[] {x, y}) {
          Tape.feed(each, "spouse a 50;spouse b 50;couple a b;third t 1 2;" + rest);
          T.due("read", each.read(), 0);
          each.hire(0, 0);
          each.swear(0, true);
          each.weeks(20);
        }
        T.same("behind " + ahead + " by " + rest, Tape.all(x), Tape.all(y));
      }
    }
  }

  // One object reads texts of 400 TOKENS again and again: each has all the room there is.
  private static void roomIsThereAnew() {
    SpouseTalk x = new SpouseTalk();
    for (int i = 0; i < 12; i++) {
      Tape.feed(x, "spouse a 1;length=1;says=1" + "+1".repeat(193 + i % 2) + ";");
      T.due("read " + i, x.read(), 0);
      T.due("all of 400 TOKENS are read", x.spouse(0, 2), Tape.row((194 + i % 2) % 8));
      Tape.feed(x, i % 3 == 0 ? SIX + THREE + FOUR : i % 3 == 1 ? SIX + "spouse g 1;" : "says=(((((((1)))))));");
      T.due("read " + i, x.read(), i % 3 == 0 ? 0 : ROOM);
    }
  }

  public static void main(String[] args) {
    textOf2000Bytes();
    tokensAreTheLongest();
    blanksBetweenOrNot();
    namesOfEightLetters();
    namesAreNoWordsInQuotes();
    intsOfFourDigits();
    longerOnesAreNoTokens();
    syntaxAtEachToken();
    theEndIsTheLength();
    anyNumberOfTells();
    roomOfEachSort();
    tokens400();
    tokens400AndOtherRoom();
    ifsOfALaw();
    parenthesesWithinOneAnother();
    theFirstFaultByItsPlace();
    ofOnePlaceTheLeast();
    meaningOnlyWithoutFormFaults();
    namesToldTwice();
    spousesInTwoCouples();
    noSuchSpouseAhead();
    numbersNotAsTold();
    numberedAsTheyStand();
    ifNotToldAndTheLastOne();
    rowsAsNumbers();
    aFaultChangesNothing();
    aTextInPlaceOfTheOneAhead();
    nothingIsLeftOfTheTextAhead();
    roomIsThereAnew();
    T.end();
  }
}
