/**
 * As many SPOUSES, COUPLES and THIRDS as there may be: each has numbers of its own, and none of
 * them is another one's. Every call, for each of them and just beyond, against the Model.
 */
public final class FullHouseTest {
  private static final Tape T = new Tape();
  private static final int NONE = SpouseTalk.NONE;

  private static final String PEOPLE = "spouse a 31; spouse b 42; spouse c 53; spouse d 64; spouse e 75; spouse f 86; couple f a; couple b e; couple d c;"
      + "third p 3 11; third q 5 22; third r 7 33; third s 9 44; ";
  private static final String[] LAWS = {
    "length = 1 + which; says = place + mood / 10; bends = if love < 4 then word else word + which + place; drops = 10 + which * 5; takes = word - 3;"
      + "loves = 1 + which; dares = love - 3 + which - fines; fine 7; seed 42;",
    "length = 5; says = mood + place * which; bends = word + tired / 9 - love / 9; drops = tired; takes = 3 - word; loves = mood / 20; dares = 3 - fines; fine 99; seed 9990;",
    "length = mood / 12; bends = word + price - which * 2; takes = if mood < 40 then 2 else 0 - word; loves = 9; dares = which;"};
  private static final int[] ROWS = {1, 8, 15, Tape.row(3, 4), Tape.row(7, 0, 7), Tape.row(1, 2, 3, 4), Tape.row(7, 7, 7, 7, 7), Tape.row(0, 5, 2, 6, 3), 0, 16, 65536};
  private static final int STAGES = 6;
  private static final int GROUPS = 6;

  private final String law;
  private final int stage;
  private final SpouseTalk x = new SpouseTalk();
  private final Model m = new Model();

  private FullHouseTest(String law, int stage) {
    this.law = law;
    this.stage = stage;
  }

  private void due(String call, long got, long want) {
    T.due("stage " + stage + " of " + law + ": " + call, got, want);
  }

  private void hire(int couple, int third) {
    due("hire", x.hire(couple, third) ? 1 : 0, m.hire(couple, third) ? 1 : 0);
  }

  private void swear(int third, boolean sworn) {
    due("swear", x.swear(third, sworn) ? 1 : 0, m.swear(third, sworn) ? 1 : 0);
  }

  private void weeks(int n) {
    due("weeks", x.weeks(n), m.weeks(n));
  }

  private void live() {
    String text = PEOPLE + law;
    Tape.feed(x, text);
    m.tape.append(text);
    due("read", x.read(), m.read());
    if (stage >= 1) {
      hire(0, 3);
      hire(1, 2);
      hire(2, 0);
      weeks(1);
    }
    if (stage >= 2) {
      swear(3, true);
      swear(0, true);
      weeks(2);
    }
    if (stage >= 3) {
      hire(2, NONE);
      swear(1, true);
      hire(1, 1);
      weeks(3);
    }
    if (stage >= 4) {
      hire(2, 3);
      swear(3, false);
      swear(2, true);
      weeks(4);
    }
    if (stage >= 5) weeks(30);
  }

  private void howItIs() {
    for (int what = -1; what <= 14; what++) due("count " + what, x.count(what), m.count(what));
    for (int i = -1; i <= 6; i++) for (int what = -1; what <= 4; what++) due("spouse " + i + " " + what, x.spouse(i, what), m.spouse(i, what));
    for (int i = -1; i <= 3; i++) for (int what = -1; what <= 6; what++) due("couple " + i + " " + what, x.couple(i, what), m.couple(i, what));
    for (int i = -1; i <= 4; i++) for (int what = -1; what <= 8; what++) due("third " + i + " " + what, x.third(i, what), m.third(i, what));
  }

  private void howWordsArePut() {
    for (int t = -1; t <= 4; t++) {
      for (int w = -1; w <= 8; w++) for (int at = -1; at <= 5; at++) due("bends " + t + " " + w + " " + at, x.bends(t, w, at), m.bends(t, w, at));
      for (int at = -1; at <= 5; at++) due("crooked " + t + " " + at, x.crooked(t, at), m.crooked(t, at));
    }
  }

  private void howRowsArePut() {
    for (int row : ROWS) {
      for (int t = -1; t <= 4; t++) due("heard " + t + " " + row, x.heard(t, row), m.heard(t, row));
      for (int s = -1; s <= 6; s++) due("takes " + s + " " + row, x.takes(s, row), m.takes(s, row));
      for (int t = 0; t < 4; t++) due("say " + t + " " + row, x.say(t, row), m.say(t, row));
      due("least " + row, x.least(row), m.least(row));
      due("truest " + row, x.truest(row), m.truest(row));
    }
  }

  private void howPairsPut() {
    for (int row : ROWS) {
      for (int pair = 0; pair < 16; pair++) {
        due("chain " + pair + " " + row, x.chain(pair / 4, pair % 4, row), m.chain(pair / 4, pair % 4, row));
        due("loses " + pair + " " + row, x.loses(pair / 4, pair % 4, row), m.loses(pair / 4, pair % 4, row));
      }
    }
  }

  private void whatWouldCome() {
    for (int n : new int[] {-1, 0, 1, 2, 7, 59, 60, 61}) {
      for (int s = 0; s < 6; s++) due("then " + s + " " + n, x.then(s, n), m.then(s, n));
      for (int t = 0; t < 4; t++) for (int what = 0; what <= 2; what++) due("paid " + t + " " + n + " " + what, x.paid(t, n, what), m.paid(t, n, what));
      for (int c = -1; c <= 3; c++) due("year " + c + " " + n, x.year(c, n, 20), m.year(c, n, 20));
    }
    for (int c = -1; c <= 3; c++) due("parts " + c, x.parts(c), m.parts(c));
    for (int c = -2; c <= 3; c++) due("hires " + c, x.hires(c), m.hires(c));
    for (int n : new int[] {1, 2, 24}) for (int i : new int[] {-2, -1, 0, 1, 15, 16}) due("oaths " + n + " " + i, x.oaths(n, i), m.oaths(n, i));
  }

  private void whoInterpreted() {
    for (int i = 0; i <= 20; i++) {
      int as = i % 5 == 4 ? 1 : 8 + (i * 3 + stage) % 8;
      if (i % 3 != 2) as = m.heard((i + stage) % 4, 8 + i % 8);
      due("tell " + i, x.tell(i % 8, as), m.tell(i % 8, as));
    }
    for (int k = -1; k <= 21; k++) {
      due("who " + k, x.who(k), m.who(k));
      due("ask " + k, x.ask(k), m.ask(k));
    }
    due("forget", x.forget(), m.forget());
    due("ask", x.ask(0), m.ask(0));
  }

  // An object is used for at most 512 calls, so each group of them has one of its own.
  private void group(int number) {
    live();
    switch (number) {
      case 0 -> howItIs();
      case 1 -> howWordsArePut();
      case 2 -> howRowsArePut();
      case 3 -> howPairsPut();
      case 4 -> whatWouldCome();
      default -> whoInterpreted();
    }
  }

  public static void main(String[] args) {
    for (String law : LAWS) {
      for (int stage = 0; stage < STAGES; stage++) {
        for (int number = 0; number < GROUPS; number++) new FullHouseTest(law, stage).group(number);
      }
    }
    T.end();
  }
}
