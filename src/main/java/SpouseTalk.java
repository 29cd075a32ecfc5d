/**
 * Spouses who speak only by a third. ../shared/DOC.md says what each call answers; words in
 * capitals in the comments are that document's terms.
 */
public final class SpouseTalk {
    public static final int NONE = -1;

    private static final int NOBODY = -2;
    private static final int NO_AMOUNT = -100000;
    private static final int ENDLESS = 1000000;

    private static final int TAPE_ROOM = 2000;
    private static final int FED_BYTES = 20;
    private static final int MAX_TOKENS = 400;
    private static final int MAX_SPOUSES = 6;
    private static final int MAX_COUPLES = 3;
    private static final int MAX_THIRDS = 4;
    private static final int MAX_IFS = 4;
    private static final int MAX_PARENS = 6;
    private static final int MAX_LETTERS = 8;
    private static final int MAX_DIGITS = 4;

    private static final int MAX_MOOD = 99;
    private static final int MAX_TIRED = 99;
    private static final int MAX_LOVE = 99;
    private static final int MAX_PRICE = 9;
    private static final int MAX_FINE = 99;
    private static final int MAX_SEED = 9999;
    private static final int USUAL_FINE = 10;
    private static final int REST = 5;
    private static final int STEP = 9;

    private static final int WORDS = 8;
    private static final int LEFT_OUT = 8;
    private static final int PUT_WAYS = 9;
    private static final int MAX_WORDS = 5;
    private static final int EMPTY_ROW = 1;
    private static final int SAY_WORDS = 4;
    private static final int MOST_WEEKS = 60;
    private static final int MOST_PART_WEEKS = 200;
    private static final int MOST_OATH_WEEKS = 24;
    private static final int MOST_SEEDS = 20;
    private static final int UNDO_ROOM = 40;
    private static final int SLOTS = 3;
    private static final int TOLD_ROOM = 20;

    private static final int SYNTAX = 1;
    private static final int ROOM = 2;
    private static final int TWICE = 3;
    private static final int NO_SUCH_NAME = 4;
    private static final int WRONG = 5;

    // Kinds of tokens: a sign's kind is its own byte, a keyword's is KEYWORD and its number.
    private static final int END = 0;
    private static final int NO_TOKEN = 1;
    private static final int NAME = 2;
    private static final int INT = 3;
    private static final String SIGNS = ";=+-*/<()";
    private static final int KEYWORD = 128;
    private static final int KEYWORD_COUNT = 24;
    private static final String KEYWORDS = "spouse couple third length says bends drops takes loves dares fine seed if then else word place mood tired love which week price fines ";
    private static final int SPOUSE_KEY = 128;
    private static final int COUPLE_KEY = 129;
    private static final int THIRD_KEY = 130;
    private static final int LAW_KEY = 131;
    private static final int FINE_KEY = 138;
    private static final int SEED_KEY = 139;
    private static final int IF_KEY = 140;
    private static final int THEN_KEY = 141;
    private static final int ELSE_KEY = 142;
    private static final int VAR_KEY = 143;

    // Laws and variables are numbered as their keywords stand.
    private static final int LENGTH = 0;
    private static final int SAYS = 1;
    private static final int BENDS = 2;
    private static final int DROPS = 3;
    private static final int TAKES = 4;
    private static final int LOVES = 5;
    private static final int DARES = 6;
    private static final int LAW_COUNT = 7;
    private static final int V_WORD = 0;
    private static final int V_PLACE = 1;
    private static final int V_MOOD = 2;
    private static final int V_TIRED = 3;
    private static final int V_LOVE = 4;
    private static final int V_WHICH = 5;
    private static final int V_WEEK = 6;
    private static final int V_PRICE = 7;
    private static final int V_FINES = 8;
    private static final int VAR_COUNT = 9;

    // Steps of a compiled law: 0 and more is that number, VAR - v a variable, JUMP - a a jump to a.
    private static final int VAR = -1;
    private static final int ADD = -10;
    private static final int SUBTRACT = -11;
    private static final int MULTIPLY = -12;
    private static final int DIVIDE = -13;
    private static final int STOP = -14;
    private static final int JUMP = -100;
    // A law has no more steps than TOKENS, and the laws that are not told take 14.
    private static final int CODE_ROOM = 420;
    // Six parentheses leave at most 16 numbers open.
    private static final int STACK_ROOM = 20;

    // All that goes on is one row of numbers, so that it is held and undone by one copy.
    private static final int WEEK = 0;
    private static final int SAID = 1;
    private static final int HEARD = 2;
    private static final int FINES = 3;
    private static final int MOOD = 4;
    private static final int HEARD_BY = 10;
    private static final int HIRED = 16;
    private static final int PARTED = 19;
    private static final int SPENT = 22;
    private static final int SILENT = 25;
    private static final int TIRED = 28;
    private static final int LOVE = 32;
    private static final int SWORN = 36;
    private static final int EARNED = 40;
    private static final int FINED = 44;
    private static final int STATE_SIZE = 48;

    private final byte[] tape = new byte[TAPE_ROOM];
    private int tapeSize;
    private int faultPlace = NONE;
    private final Text text = new Text();
    private final Reader reader = new Reader();
    private final int[] now = new int[STATE_SIZE];
    private final Past past = new Past();
    private final Talk talk = new Talk(text);
    private final Search search = new Search(text, talk);
    private final Future future = new Future(text, talk);
    private final Guess guess = new Guess(text, talk);

    public SpouseTalk() {
        text.clear();
        text.begin(now);
    }

    // ---- the tape and the text

    public int feed(int a, int b, int c, int d, int e) {
        if (tapeSize > TAPE_ROOM - FED_BYTES) {
            return NONE;
        }
        addBytes(a);
        addBytes(b);
        addBytes(c);
        addBytes(d);
        addBytes(e);
        return tapeSize;
    }

    private void addBytes(int four) {
        for (int shift = 24; shift >= 0; shift -= 8) {
            if (tapeSize >= 0 && tapeSize < TAPE_ROOM) {
                tape[tapeSize] = (byte) (four >>> shift);
                tapeSize++;
            }
        }
    }

    public int back(int n) {
        if (n < 0 || n > tapeSize) {
            return NONE;
        }
        tapeSize -= n;
        return tapeSize;
    }

    public int read() {
        int fault = reader.readTape(tape, tapeSize);
        tapeSize = 0;
        faultPlace = reader.faultPlace;
        if (fault == 0) {
            text.copy(reader.fresh);
            text.begin(now);
            past.forgetDone();
            past.emptySlots();
            guess.clear();
        }
        return fault;
    }

    public int place() {
        return faultPlace;
    }

    // ---- how things are

    public int spouse(int spouse, int what) {
        if (!text.hasSpouse(spouse)) {
            return NONE;
        }
        switch (what) {
            case 0:
                return now[MOOD + spouse];
            case 1:
                return text.coupleOf[spouse];
            case 2:
                return talk.rowOf(now, spouse);
            case 3:
                return now[HEARD_BY + spouse];
            default:
                return NONE;
        }
    }

    public int couple(int couple, int what) {
        if (!text.hasCouple(couple)) {
            return NONE;
        }
        switch (what) {
            case 0:
            case 1:
                return text.pairs[2 * couple + what];
            case 2:
                return now[HIRED + couple] == NONE ? NOBODY : now[HIRED + couple];
            case 3:
                return now[PARTED + couple];
            case 4:
                return now[SPENT + couple];
            case 5:
                return now[SILENT + couple];
            default:
                return NONE;
        }
    }

    public int third(int third, int what) {
        if (!text.hasThird(third)) {
            return NO_AMOUNT;
        }
        switch (what) {
            case 0:
                return text.prices[third];
            case 1:
                return now[TIRED + third];
            case 2:
                return now[LOVE + third];
            case 3:
                return now[SWORN + third];
            case 4:
                return now[EARNED + third];
            case 5:
                return now[FINED + third];
            case 6:
                return couplesOf(third);
            case 7:
                return talk.isDaring(now, third) ? 1 : 0;
            default:
                return NO_AMOUNT;
        }
    }

    private int couplesOf(int third) {
        int bits = 0;
        for (int couple = 0; couple < text.couples; couple++) {
            if (now[HIRED + couple] == third) {
                bits |= 1 << couple;
            }
        }
        return bits;
    }

    public int count(int what) {
        switch (what) {
            case 0:
                return text.spouses;
            case 1:
                return text.couples;
            case 2:
                return text.thirds;
            case 3:
                return now[WEEK];
            case 4:
                return bitsOf(PARTED, text.couples);
            case 5:
                return bitsOf(SWORN, text.thirds);
            case 6:
                return now[SAID];
            case 7:
                return now[HEARD];
            case 8:
                return tapeSize;
            case 9:
                return past.doneSize;
            case 10:
                return guess.size;
            case 11:
                return past.heldCount();
            case 12:
                return now[FINES];
            case 13:
                return allMoods();
            default:
                return NONE;
        }
    }

    private int bitsOf(int from, int size) {
        int bits = 0;
        for (int i = 0; i < size; i++) {
            if (now[from + i] != 0) {
                bits |= 1 << i;
            }
        }
        return bits;
    }

    private int allMoods() {
        int sum = 0;
        for (int spouse = 0; spouse < text.spouses; spouse++) {
            sum += now[MOOD + spouse];
        }
        return sum;
    }

    // ---- things done

    public boolean hire(int couple, int third) {
        if (!text.hasCouple(couple) || (third != NONE && !text.hasThird(third))) {
            return false;
        }
        if (now[PARTED + couple] != 0 || now[HIRED + couple] == third) {
            return false;
        }
        past.remember(now);
        now[HIRED + couple] = third;
        return true;
    }

    public boolean swear(int third, boolean sworn) {
        int oath = sworn ? 1 : 0;
        if (!text.hasThird(third) || now[SWORN + third] == oath) {
            return false;
        }
        past.remember(now);
        now[SWORN + third] = oath;
        return true;
    }

    public int weeks(int n) {
        if (n < 0 || n > MOST_WEEKS) {
            return NONE;
        }
        if (n > 0) {
            past.remember(now);
        }
        for (int i = 0; i < n; i++) {
            talk.goThroughWeek(now, text.seed);
        }
        return now[WEEK];
    }

    public boolean undo() {
        return past.takeBack(now);
    }

    public boolean hold(int slot) {
        return past.keep(slot, now);
    }

    public boolean restore(int slot) {
        if (!past.bringBack(slot, now)) {
            return false;
        }
        past.forgetDone();
        return true;
    }

    // ---- what would be put and taken

    public int bends(int third, int word, int at) {
        if (!text.hasThird(third) || !isWord(word) || !isPlace(at)) {
            return NONE;
        }
        return talk.putWord(now, third, word, at);
    }

    public int heard(int third, int row) {
        if (!text.hasThird(third) || !Rows.isRow(row)) {
            return NONE;
        }
        return talk.putRow(now, third, row);
    }

    public int chain(int one, int two, int row) {
        if (!text.hasThird(one) || !text.hasThird(two) || !Rows.isRow(row)) {
            return NONE;
        }
        return talk.putRow(now, two, talk.putRow(now, one, row));
    }

    public int say(int third, int row) {
        if (!text.hasThird(third) || !Rows.isRow(row)) {
            return NONE;
        }
        return search.rowPutAs(now, third, row);
    }

    public int loses(int one, int two, int row) {
        if (!text.hasThird(one) || !text.hasThird(two) || !Rows.isRow(row)) {
            return NONE;
        }
        return search.lostByTwo(now, one, two, row);
    }

    public int least(int row) {
        return Rows.isRow(row) ? search.bestPair(now, row) : NONE;
    }

    public int truest(int row) {
        return Rows.isRow(row) ? search.bestThird(now, row) : NONE;
    }

    public int crooked(int third, int at) {
        if (!text.hasThird(third) || !isPlace(at)) {
            return NONE;
        }
        int bent = 0;
        for (int word = 0; word < WORDS; word++) {
            if (talk.putWord(now, third, word, at) != word) {
                bent++;
            }
        }
        return bent;
    }

    public int altered(int row, int other) {
        if (!Rows.isRow(row) || !Rows.isRow(other)) {
            return NONE;
        }
        return search.rows.changes(row, other);
    }

    public int takes(int spouse, int row) {
        if (!text.hasSpouse(spouse) || !Rows.isRow(row)) {
            return NONE;
        }
        return talk.moodBehind(now, spouse, row);
    }

    public int hires(int couple) {
        if (couple != NONE && !text.hasCouple(couple)) {
            return NONE;
        }
        return search.bestHire(now, couple);
    }

    // ---- what would come

    public int then(int spouse, int n) {
        if (!text.hasSpouse(spouse) || n < 0 || n > MOST_WEEKS) {
            return NONE;
        }
        return future.behind(now, n)[MOOD + spouse];
    }

    public int paid(int third, int n, int what) {
        if (!text.hasThird(third) || n < 0 || n > MOST_WEEKS) {
            return NO_AMOUNT;
        }
        switch (what) {
            case 0:
                return future.behind(now, n)[EARNED + third];
            case 1:
                return future.behind(now, n)[TIRED + third];
            case 2:
                return future.behind(now, n)[LOVE + third];
            default:
                return NO_AMOUNT;
        }
    }

    public int parts(int couple) {
        if (!text.hasCouple(couple)) {
            return NONE;
        }
        return future.weeksToPart(now, couple, MOST_PART_WEEKS, text.seed);
    }

    public int oaths(int n, int i) {
        if (n < 1 || n > MOST_OATH_WEEKS || i < NONE) {
            return NONE;
        }
        for (int set = 0; set < 1 << text.thirds; set++) {
            future.tryOaths(now, n, set);
        }
        return future.restingOaths(i);
    }

    public int year(int couple, int n, int s) {
        if (!text.hasCouple(couple) || n < 0 || n > MOST_WEEKS || s < 1 || s > MOST_SEEDS) {
            return NONE;
        }
        int parting = 0;
        for (int i = 0; i < s; i++) {
            if (future.weeksToPart(now, couple, n, text.seed + i) != NOBODY) {
                parting++;
            }
        }
        return parting;
    }

    // ---- who interpreted

    public int tell(int word, int row) {
        if (!isWord(word) || !Rows.isRow(row) || Rows.size(row) > 1) {
            return NONE;
        }
        return guess.add(word, row);
    }

    public int forget() {
        int had = guess.size;
        guess.clear();
        return had;
    }

    public int who(int k) {
        return guess.isKnown(k) ? guess.candidates(now, k) : NONE;
    }

    public int ask(int k) {
        return guess.isKnown(k) ? guess.bestWord(now, k) : NONE;
    }

    private static boolean isWord(int word) {
        return word >= 0 && word < WORDS;
    }

    private static boolean isPlace(int at) {
        return at >= 0 && at < MAX_WORDS;
    }

    private static int within(int value, int low, int high) {
        return Math.max(low, Math.min(high, value));
    }

    /** ROWS as numbers, and how far two of them are apart. */
    private static final class Rows {
        private final int[] line = new int[MAX_WORDS + 1];

        static boolean isRow(int row) {
            return size(row) != NONE;
        }

        static int size(int row) {
            for (int words = 0; words <= MAX_WORDS; words++) {
                int first = 1 << (3 * words);
                if (row >= first && row < 2 * first) {
                    return words;
                }
            }
            return NONE;
        }

        static int wordAt(int row, int size, int at) {
            int behind = size - 1 - at;
            return at >= 0 && behind >= 0 ? (row >>> (3 * behind)) & (WORDS - 1) : 0;
        }

        static int with(int row, int word) {
            return row * WORDS + word;
        }

        int changes(int one, int other) {
            int height = size(one);
            int width = size(other);
            if (height == NONE || width == NONE) {
                return NONE;
            }
            for (int j = 0; j <= width && j < line.length; j++) {
                line[j] = j;
            }
            for (int i = 1; i <= height; i++) {
                goDown(i, wordAt(one, height, i - 1), other, width);
            }
            return width < line.length ? line[width] : NONE;
        }

        // line holds the changes from the first i - 1 words of the one to each start of the other.
        private void goDown(int i, int word, int other, int width) {
            int corner = line[0];
            line[0] = i;
            for (int j = 1; j <= width && j < line.length; j++) {
                int changed = corner + (wordAt(other, width, j - 1) == word ? 0 : 1);
                corner = line[j];
                line[j] = Math.min(changed, 1 + Math.min(line[j], line[j - 1]));
            }
        }
    }

    /** The LAWS of a text, compiled into steps of a machine with a stack. */
    private static final class Laws {
        private final int[] code = new int[CODE_ROOM];
        private final int[] starts = new int[LAW_COUNT];
        private final int[] stack = new int[STACK_ROOM];
        private final int[] vars = new int[VAR_COUNT];
        private int used;

        void clear() {
            used = 0;
            for (int law = 0; law < LAW_COUNT; law++) {
                begin(law);
                add(usual(law));
                add(STOP);
            }
        }

        private static int usual(int law) {
            switch (law) {
                case LENGTH:
                    return 2;
                case SAYS:
                    return VAR - V_PLACE;
                case BENDS:
                    return VAR - V_WORD;
                default:
                    return 0;
            }
        }

        void copy(Laws other) {
            System.arraycopy(other.code, 0, code, 0, CODE_ROOM);
            System.arraycopy(other.starts, 0, starts, 0, LAW_COUNT);
            used = other.used;
        }

        void begin(int law) {
            if (law >= 0 && law < LAW_COUNT) {
                starts[law] = used;
            }
        }

        int add(int step) {
            int at = used;
            if (used >= 0 && used < CODE_ROOM) {
                code[used] = step;
                used++;
            }
            return at;
        }

        void jumpHere(int from) {
            if (from >= 0 && from < CODE_ROOM) {
                code[from] = JUMP - used;
            }
        }

        void askIn(int week) {
            for (int i = 0; i < VAR_COUNT; i++) {
                vars[i] = 0;
            }
            vars[V_WEEK] = week;
        }

        void let(int variable, int value) {
            if (variable >= 0 && variable < VAR_COUNT) {
                vars[variable] = value;
            }
        }

        int answer(int law) {
            int at = law >= 0 && law < LAW_COUNT ? starts[law] : NONE;
            int top = 0;
            // Jumps only go on, so no law takes more steps than there are.
            for (int steps = 0; steps < CODE_ROOM && at >= 0 && at < CODE_ROOM; steps++) {
                int step = code[at];
                at++;
                if (step == STOP) {
                    return top == 1 ? stack[0] : 0;
                }
                if (step > ADD) {
                    if (top >= STACK_ROOM) {
                        return 0;
                    }
                    stack[top] = step >= 0 ? step : vars[VAR - step];
                    top++;
                    continue;
                }
                if (top < 2) {
                    return 0;
                }
                top--;
                int left = stack[top - 1];
                int right = stack[top];
                switch (step) {
                    case ADD:
                        stack[top - 1] = left + right;
                        break;
                    case SUBTRACT:
                        stack[top - 1] = left - right;
                        break;
                    case MULTIPLY:
                        stack[top - 1] = left * right;
                        break;
                    case DIVIDE:
                        if (right == 0) {
                            return 0;
                        }
                        stack[top - 1] = left / right;
                        break;
                    default:
                        top--;
                        at = left < right ? at : JUMP - step;
                        break;
                }
            }
            return 0;
        }
    }

    /** What a text tells. */
    private static final class Text {
        private final Laws laws = new Laws();
        private final int[] moods = new int[MAX_SPOUSES];
        private final int[] coupleOf = new int[MAX_SPOUSES];
        private final int[] pairs = new int[2 * MAX_COUPLES];
        private final int[] prices = new int[MAX_THIRDS];
        private final int[] tireds = new int[MAX_THIRDS];
        private int spouses;
        private int couples;
        private int thirds;
        private int fine;
        private int seed;

        void clear() {
            laws.clear();
            spouses = 0;
            couples = 0;
            thirds = 0;
            fine = USUAL_FINE;
            seed = 0;
        }

        void copy(Text other) {
            laws.copy(other.laws);
            System.arraycopy(other.moods, 0, moods, 0, MAX_SPOUSES);
            System.arraycopy(other.coupleOf, 0, coupleOf, 0, MAX_SPOUSES);
            System.arraycopy(other.pairs, 0, pairs, 0, 2 * MAX_COUPLES);
            System.arraycopy(other.prices, 0, prices, 0, MAX_THIRDS);
            System.arraycopy(other.tireds, 0, tireds, 0, MAX_THIRDS);
            spouses = other.spouses;
            couples = other.couples;
            thirds = other.thirds;
            fine = other.fine;
            seed = other.seed;
        }

        void addSpouse(int mood) {
            if (spouses < MAX_SPOUSES) {
                moods[spouses] = mood;
                coupleOf[spouses] = NOBODY;
                spouses++;
            }
        }

        void addCouple(int one, int two) {
            if (couples < MAX_COUPLES) {
                if (hasSpouse(one) && hasSpouse(two)) {
                    pairs[2 * couples] = one;
                    pairs[2 * couples + 1] = two;
                    coupleOf[one] = couples;
                    coupleOf[two] = couples;
                }
                // One of no such names counts, too: there is no more room for it than for others.
                couples++;
            }
        }

        void addThird(int price, int tired) {
            if (thirds < MAX_THIRDS) {
                prices[thirds] = price;
                tireds[thirds] = tired;
                thirds++;
            }
        }

        boolean hasSpouse(int spouse) {
            return spouse >= 0 && spouse < spouses;
        }

        boolean hasCouple(int couple) {
            return couple >= 0 && couple < couples;
        }

        boolean hasThird(int third) {
            return third >= 0 && third < thirds;
        }

        void begin(int[] state) {
            for (int i = 0; i < STATE_SIZE && i < state.length; i++) {
                state[i] = 0;
            }
            for (int spouse = 0; spouse < spouses; spouse++) {
                state[MOOD + spouse] = moods[spouse];
            }
            for (int couple = 0; couple < couples; couple++) {
                state[HIRED + couple] = NONE;
            }
            for (int third = 0; third < thirds; third++) {
                state[TIRED + third] = tireds[third];
            }
        }
    }

    /** A tape cut into TOKENS: up to the first that is none, or one more than there is room for. */
    private static final class Tokens {
        private final long[] keywords = new long[KEYWORD_COUNT];
        private final int[] kinds = new int[MAX_TOKENS + 1];
        private final int[] places = new int[MAX_TOKENS + 1];
        private final long[] values = new long[MAX_TOKENS + 1];
        private int size;

        Tokens() {
            long word = 0;
            int known = 0;
            for (int i = 0; i < KEYWORDS.length(); i++) {
                char sign = KEYWORDS.charAt(i);
                if (sign != ' ') {
                    word = withLetter(word, sign);
                } else if (known < KEYWORD_COUNT) {
                    keywords[known] = word;
                    known++;
                    word = 0;
                }
            }
        }

        // Eight letters fit into a long, so names are compared as numbers.
        private static long withLetter(long word, int letter) {
            return word * 32 + (letter - 'a' + 1);
        }

        void cut(byte[] tape, int length) {
            int end = Math.min(length, tape.length);
            int at = 0;
            boolean more = true;
            for (size = 0; more && size <= MAX_TOKENS; size++) {
                at = blanksEnd(tape, at, end);
                int tokenEnd = tokenEnd(tape, at, end);
                places[size] = at < end ? at : length;
                values[size] = 0;
                kinds[size] = kindOf(tape, at, tokenEnd);
                more = kinds[size] != END && kinds[size] != NO_TOKEN;
                at = tokenEnd;
            }
        }

        int kindAt(int i) {
            return i >= 0 && i < size ? kinds[i] : NO_TOKEN;
        }

        int placeOf(int i) {
            return i >= 0 && i < size ? places[i] : NONE;
        }

        long valueAt(int i) {
            return i >= 0 && i < size ? values[i] : 0;
        }

        private static int blanksEnd(byte[] tape, int from, int end) {
            int at = from;
            while (at < end && isBlank(tape[at])) {
                at++;
            }
            return at;
        }

        private static int tokenEnd(byte[] tape, int from, int end) {
            int at = from;
            if (from < end && isLetter(tape[from])) {
                while (at < end && isLetter(tape[at])) {
                    at++;
                }
            } else if (from < end && isDigit(tape[from])) {
                while (at < end && isDigit(tape[at])) {
                    at++;
                }
            } else if (from < end) {
                at++;
            }
            return at;
        }

        private int kindOf(byte[] tape, int from, int end) {
            if (from >= end) {
                return END;
            }
            if (isLetter(tape[from])) {
                return end - from > MAX_LETTERS ? NO_TOKEN : wordKind(tape, from, end);
            }
            if (isDigit(tape[from])) {
                return end - from > MAX_DIGITS ? NO_TOKEN : numberKind(tape, from, end);
            }
            char sign = (char) (tape[from] & 255);
            return SIGNS.indexOf(sign) >= 0 ? sign : NO_TOKEN;
        }

        private int wordKind(byte[] tape, int from, int end) {
            long word = 0;
            for (int i = from; i < end; i++) {
                word = withLetter(word, tape[i]);
            }
            values[size] = word;
            for (int i = 0; i < KEYWORD_COUNT; i++) {
                if (keywords[i] == word) {
                    return KEYWORD + i;
                }
            }
            return NAME;
        }

        private int numberKind(byte[] tape, int from, int end) {
            int number = 0;
            for (int i = from; i < end; i++) {
                number = number * 10 + (tape[i] - '0');
            }
            values[size] = number;
            return INT;
        }

        private static boolean isBlank(int sign) {
            return sign == 9 || sign == 10 || sign == 13 || sign == 32;
        }

        private static boolean isLetter(int sign) {
            return sign >= 'a' && sign <= 'z';
        }

        private static boolean isDigit(int sign) {
            return sign >= '0' && sign <= '9';
        }
    }

    /** Reads a tape into a fresh text; FAULTS are met in the order of their places. */
    private static final class Reader {
        private final Tokens tokens = new Tokens();
        private final Text fresh = new Text();
        private final long[] names = new long[MAX_SPOUSES + MAX_THIRDS];
        private final int[] spouseOfName = new int[MAX_SPOUSES + MAX_THIRDS];
        private int nameCount;
        private int at;
        private int fault;
        private int faultPlace;
        // A fault of meaning counts only if the whole text has none of form.
        private int meaningFault;
        private int meaningPlace;

        int readTape(byte[] tape, int length) {
            tokens.cut(tape, length);
            fresh.clear();
            nameCount = 0;
            at = 0;
            fault = 0;
            meaningFault = 0;
            meaningPlace = NONE;
            boolean more = true;
            for (int i = 0; more && i <= MAX_TOKENS; i++) {
                int kind = tokens.kindAt(at);
                if (kind >= LAW_KEY && kind < LAW_KEY + LAW_COUNT) {
                    more = readLaw(kind);
                } else {
                    more = kind != END && readFact(kind);
                }
            }
            // Reading stops at the token that is refused.
            faultPlace = fault == 0 ? meaningPlace : tokens.placeOf(at);
            fault = fault == 0 ? meaningFault : fault;
            return fault;
        }

        private boolean refuse(int number) {
            fault = number;
            return false;
        }

        // Blames the token that was taken last.
        private void blame(int number) {
            if (meaningFault == 0) {
                meaningFault = number;
                meaningPlace = tokens.placeOf(at - 1);
            }
        }

        private boolean take(int kind) {
            if (tokens.kindAt(at) != kind) {
                fault = SYNTAX;
                return false;
            }
            if (at >= MAX_TOKENS) {
                fault = ROOM;
                return false;
            }
            at++;
            return true;
        }

        private boolean takeNumber(int most) {
            if (!take(INT)) {
                return false;
            }
            if (taken() > most) {
                blame(WRONG);
            }
            return true;
        }

        private int taken() {
            return (int) tokens.valueAt(at - 1);
        }

        private boolean readFact(int kind) {
            switch (kind) {
                case SPOUSE_KEY:
                    return readSpouse();
                case COUPLE_KEY:
                    return readCouple();
                case THIRD_KEY:
                    return readThird();
                case FINE_KEY:
                    return readFine();
                case SEED_KEY:
                    return readSeed();
                default:
                    return refuse(SYNTAX);
            }
        }

        private boolean readSpouse() {
            if (fresh.spouses >= MAX_SPOUSES) {
                return refuse(ROOM);
            }
            if (!take(SPOUSE_KEY) || !takeNewName(fresh.spouses) || !takeNumber(MAX_MOOD)) {
                return false;
            }
            fresh.addSpouse(taken());
            return take(';');
        }

        private boolean readThird() {
            if (fresh.thirds >= MAX_THIRDS) {
                return refuse(ROOM);
            }
            if (!take(THIRD_KEY) || !takeNewName(NONE) || !takeNumber(MAX_PRICE)) {
                return false;
            }
            int price = taken();
            if (!takeNumber(MAX_TIRED)) {
                return false;
            }
            fresh.addThird(price, taken());
            return take(';');
        }

        private boolean takeNewName(int spouse) {
            if (!take(NAME)) {
                return false;
            }
            long name = tokens.valueAt(at - 1);
            if (findName(name) != NONE) {
                blame(TWICE);
            } else if (nameCount < names.length && nameCount < spouseOfName.length) {
                names[nameCount] = name;
                spouseOfName[nameCount] = spouse;
                nameCount++;
            }
            return true;
        }

        private int findName(long name) {
            for (int i = 0; i < nameCount && i < names.length; i++) {
                if (names[i] == name) {
                    return i;
                }
            }
            return NONE;
        }

        private boolean readCouple() {
            if (fresh.couples >= MAX_COUPLES) {
                return refuse(ROOM);
            }
            if (!take(COUPLE_KEY) || !take(NAME)) {
                return false;
            }
            int one = namedSpouse();
            if (!take(NAME)) {
                return false;
            }
            int two = namedSpouse();
            if (one != NONE && one == two) {
                blame(TWICE);
            }
            fresh.addCouple(one, two);
            return take(';');
        }

        private int namedSpouse() {
            int known = findName(tokens.valueAt(at - 1));
            int spouse = known >= 0 && known < spouseOfName.length ? spouseOfName[known] : NONE;
            if (!fresh.hasSpouse(spouse)) {
                blame(NO_SUCH_NAME);
                return NONE;
            }
            if (fresh.coupleOf[spouse] != NOBODY) {
                blame(TWICE);
            }
            return spouse;
        }

        private boolean readFine() {
            if (!take(FINE_KEY) || !takeNumber(MAX_FINE)) {
                return false;
            }
            fresh.fine = taken();
            return take(';');
        }

        private boolean readSeed() {
            if (!take(SEED_KEY) || !takeNumber(MAX_SEED)) {
                return false;
            }
            fresh.seed = taken();
            return take(';');
        }

        private boolean readLaw(int key) {
            if (!take(key) || !take('=')) {
                return false;
            }
            fresh.laws.begin(key - LAW_KEY);
            for (int ifs = 0; ifs <= MAX_IFS && tokens.kindAt(at) == IF_KEY; ifs++) {
                if (ifs == MAX_IFS) {
                    return refuse(ROOM);
                }
                if (!take(IF_KEY) || !readSum(0) || !take('<') || !readSum(0) || !take(THEN_KEY)) {
                    return false;
                }
                int jump = fresh.laws.add(JUMP);
                if (!readSum(0) || !take(ELSE_KEY)) {
                    return false;
                }
                fresh.laws.add(STOP);
                fresh.laws.jumpHere(jump);
            }
            if (!readSum(0)) {
                return false;
            }
            fresh.laws.add(STOP);
            return take(';');
        }

        private boolean readSum(int parens) {
            if (!readProduct(parens)) {
                return false;
            }
            for (int i = 0; i <= MAX_TOKENS; i++) {
                int kind = tokens.kindAt(at);
                if (kind != '+' && kind != '-') {
                    return true;
                }
                if (!take(kind) || !readProduct(parens)) {
                    return false;
                }
                fresh.laws.add(kind == '+' ? ADD : SUBTRACT);
            }
            return false;
        }

        private boolean readProduct(int parens) {
            if (!readUnit(parens)) {
                return false;
            }
            for (int i = 0; i <= MAX_TOKENS; i++) {
                int kind = tokens.kindAt(at);
                if (kind != '*' && kind != '/') {
                    return true;
                }
                if (!take(kind) || !readUnit(parens)) {
                    return false;
                }
                fresh.laws.add(kind == '*' ? MULTIPLY : DIVIDE);
            }
            return false;
        }

        private boolean readUnit(int parens) {
            int kind = tokens.kindAt(at);
            if (kind == '(') {
                if (parens >= MAX_PARENS) {
                    return refuse(ROOM);
                }
                return take('(') && readSum(parens + 1) && take(')');
            }
            boolean isVariable = kind >= VAR_KEY && kind < VAR_KEY + VAR_COUNT;
            if (!take(isVariable ? kind : INT)) {
                return false;
            }
            fresh.laws.add(isVariable ? VAR - (kind - VAR_KEY) : taken());
            return true;
        }
    }

    /** What SPOUSES say, THIRDS put and WEEKS change; each call is told which state it is about. */
    private static final class Talk {
        private final Text text;
        private final Laws laws;

        Talk(Text text) {
            this.text = text;
            this.laws = text.laws;
        }

        int rowOf(int[] state, int spouse) {
            laws.askIn(state[WEEK]);
            laws.let(V_MOOD, state[MOOD + spouse]);
            laws.let(V_WHICH, spouse);
            int size = within(laws.answer(LENGTH), 0, MAX_WORDS);
            int row = EMPTY_ROW;
            for (int i = 0; i < size; i++) {
                laws.let(V_PLACE, i);
                row = Rows.with(row, restOf(laws.answer(SAYS), WORDS));
            }
            return row;
        }

        private static int restOf(int value, int by) {
            return value < 0 || by <= 0 ? 0 : value % by;
        }

        private void askAboutThird(int[] state, int third) {
            laws.askIn(state[WEEK]);
            laws.let(V_TIRED, state[TIRED + third]);
            laws.let(V_LOVE, state[LOVE + third]);
            laws.let(V_WHICH, third);
        }

        boolean isDaring(int[] state, int third) {
            askAboutThird(state, third);
            laws.let(V_FINES, state[FINED + third]);
            return laws.answer(DARES) > 0;
        }

        private int dropsOf(int[] state, int third) {
            askAboutThird(state, third);
            return within(laws.answer(DROPS), 0, 100);
        }

        private void askToBend(int[] state, int third) {
            askAboutThird(state, third);
            laws.let(V_PRICE, text.prices[third]);
        }

        // Behind askToBend, which words of one row need only once.
        private int bentWord(int word, int at) {
            laws.let(V_WORD, word);
            laws.let(V_PLACE, at);
            return restOf(laws.answer(BENDS), PUT_WAYS);
        }

        int putWord(int[] state, int third, int word, int at) {
            if (state[SWORN + third] != 0 && !isDaring(state, third)) {
                return word;
            }
            askToBend(state, third);
            return bentWord(word, at);
        }

        int putRow(int[] state, int third, int row) {
            return carriedRow(state, third, row, 0, 0, 0);
        }

        private int carriedRow(int[] state, int third, int row, int drops, int seed, int lots) {
            boolean bound = state[SWORN + third] != 0 && !isDaring(state, third);
            askToBend(state, third);
            int size = Rows.size(row);
            int carried = EMPTY_ROW;
            for (int i = 0; i < size; i++) {
                int word = Rows.wordAt(row, size, i);
                int put = bound ? word : bentWord(word, i);
                boolean dropped = drops > 0 && lotOfHundred(seed, lots + i) < drops;
                if (put != LEFT_OUT && !dropped) {
                    carried = Rows.with(carried, put);
                }
            }
            return carried;
        }

        private static int lotOfHundred(int seed, int which) {
            int mixed = mix(mix(seed, 91), which);
            return (mixed >>> 1) % 100;
        }

        private static int mix(int hash, int which) {
            int mixed = (hash ^ which) * 1103515245 + 12345;
            return mixed ^ (mixed >>> 15);
        }

        int moodBehind(int[] state, int spouse, int row) {
            int size = Rows.size(row);
            int mood = state[MOOD + spouse];
            laws.askIn(state[WEEK]);
            laws.let(V_WHICH, spouse);
            for (int i = 0; i < size; i++) {
                laws.let(V_WORD, Rows.wordAt(row, size, i));
                laws.let(V_PLACE, i);
                laws.let(V_MOOD, mood);
                mood = within(mood + within(laws.answer(TAKES), -STEP, STEP), 0, MAX_MOOD);
            }
            return mood;
        }

        int speakerOf(int[] state, int couple) {
            return text.pairs[2 * couple + (state[WEEK] & 1)];
        }

        private int hearerOf(int[] state, int couple) {
            return text.pairs[2 * couple + 1 - (state[WEEK] & 1)];
        }

        void goThroughWeek(int[] state, int seed) {
            for (int couple = 0; couple < text.couples && couple < MAX_COUPLES; couple++) {
                if (state[PARTED + couple] == 0) {
                    int third = state[HIRED + couple];
                    if (text.hasThird(third)) {
                        speak(state, couple, third, seed);
                    } else {
                        keepSilent(state, couple);
                    }
                    partIfSad(state, couple);
                }
            }
            restThirds(state);
            state[WEEK]++;
        }

        private void speak(int[] state, int couple, int third, int seed) {
            int speaker = speakerOf(state, couple);
            int hearer = hearerOf(state, couple);
            int said = rowOf(state, speaker);
            int lots = 256 * state[WEEK] + 64 * third + 8 * couple;
            int carried = carriedRow(state, third, said, dropsOf(state, third), seed, lots);
            int love = newLove(state, couple, speaker, third);
            int words = Rows.size(said);
            int arrived = Rows.size(carried);
            state[MOOD + hearer] = moodBehind(state, hearer, carried);
            state[HEARD_BY + hearer] += arrived;
            state[HEARD] += arrived;
            state[SAID] += words;
            state[SPENT + couple] += words * text.prices[third];
            state[EARNED + third] += words * text.prices[third];
            state[TIRED + third] = Math.min(MAX_TIRED, state[TIRED + third] + words);
            state[LOVE + third] = Math.min(MAX_LOVE, state[LOVE + third] + love);
            if (state[SWORN + third] != 0 && carried != said) {
                state[EARNED + third] -= text.fine;
                state[FINED + third]++;
                state[FINES]++;
            }
        }

        private int newLove(int[] state, int couple, int speaker, int third) {
            askAboutThird(state, third);
            laws.let(V_MOOD, state[MOOD + speaker]);
            laws.let(V_WHICH, couple);
            return within(laws.answer(LOVES), 0, STEP);
        }

        private void keepSilent(int[] state, int couple) {
            int speaker = speakerOf(state, couple);
            int hearer = hearerOf(state, couple);
            state[MOOD + speaker] = Math.max(0, state[MOOD + speaker] - 1);
            state[MOOD + hearer] = Math.max(0, state[MOOD + hearer] - 1);
            state[SILENT + couple]++;
        }

        private void partIfSad(int[] state, int couple) {
            boolean speakerSad = state[MOOD + speakerOf(state, couple)] == 0;
            boolean hearerSad = state[MOOD + hearerOf(state, couple)] == 0;
            if (speakerSad || hearerSad) {
                state[PARTED + couple] = 1;
                state[HIRED + couple] = NONE;
            }
        }

        private void restThirds(int[] state) {
            for (int third = 0; third < text.thirds; third++) {
                boolean hired = false;
                for (int couple = 0; couple < text.couples; couple++) {
                    hired |= state[HIRED + couple] == third;
                }
                if (!hired) {
                    state[TIRED + third] = Math.max(0, state[TIRED + third] - REST);
                }
            }
        }
    }

    /** What was done, to be undone, and what the SLOTS hold. */
    private static final class Past {
        private final int[][] done = new int[UNDO_ROOM][STATE_SIZE];
        private final int[][] held = new int[SLOTS][STATE_SIZE];
        private final boolean[] isHeld = new boolean[SLOTS];
        // done is a ring: the oldest is written over.
        private int next;
        private int doneSize;

        void remember(int[] state) {
            if (next >= 0 && next < UNDO_ROOM) {
                System.arraycopy(state, 0, done[next], 0, STATE_SIZE);
                next = next + 1 < UNDO_ROOM ? next + 1 : 0;
                doneSize = Math.min(UNDO_ROOM, doneSize + 1);
            }
        }

        boolean takeBack(int[] state) {
            int last = next > 0 ? next - 1 : UNDO_ROOM - 1;
            if (doneSize == 0 || last >= UNDO_ROOM) {
                return false;
            }
            System.arraycopy(done[last], 0, state, 0, STATE_SIZE);
            next = last;
            doneSize--;
            return true;
        }

        void forgetDone() {
            doneSize = 0;
        }

        private static boolean isSlot(int slot) {
            return slot >= 0 && slot < SLOTS;
        }

        boolean keep(int slot, int[] state) {
            if (!isSlot(slot)) {
                return false;
            }
            System.arraycopy(state, 0, held[slot], 0, STATE_SIZE);
            isHeld[slot] = true;
            return true;
        }

        boolean bringBack(int slot, int[] state) {
            if (!isSlot(slot) || !isHeld[slot]) {
                return false;
            }
            System.arraycopy(held[slot], 0, state, 0, STATE_SIZE);
            return true;
        }

        void emptySlots() {
            for (int slot = 0; slot < SLOTS; slot++) {
                isHeld[slot] = false;
            }
        }

        int heldCount() {
            int count = 0;
            for (int slot = 0; slot < SLOTS; slot++) {
                if (isHeld[slot]) {
                    count++;
                }
            }
            return count;
        }
    }

    /** What is found by trying words, THIRDS or pairs, as things are. */
    private static final class Search {
        private final Text text;
        private final Talk talk;
        private final Rows rows = new Rows();
        private final int[] puts = new int[SAY_WORDS * WORDS];
        // ends[at * (MAX_WORDS + 1) + had]: with the first had words put, the rest can be from at on.
        private final boolean[] ends = new boolean[(SAY_WORDS + 1) * (MAX_WORDS + 1)];
        private final int[] losses = new int[MAX_COUPLES * MAX_THIRDS];
        private final int[] chosen = new int[MAX_COUPLES];

        Search(Text text, Talk talk) {
            this.text = text;
            this.talk = talk;
        }

        int lostByTwo(int[] state, int one, int two, int row) {
            return rows.changes(row, talk.putRow(state, two, talk.putRow(state, one, row)));
        }

        int bestPair(int[] state, int row) {
            int best = NOBODY;
            int bestLoss = ENDLESS;
            for (int one = 0; one < text.thirds; one++) {
                for (int two = 0; two < text.thirds; two++) {
                    int loss = lostByTwo(state, one, two, row);
                    if (loss < bestLoss) {
                        bestLoss = loss;
                        best = 10 * one + two;
                    }
                }
            }
            return best;
        }

        int bestThird(int[] state, int row) {
            int best = NOBODY;
            int bestLoss = ENDLESS;
            for (int third = 0; third < text.thirds; third++) {
                int loss = rows.changes(row, talk.putRow(state, third, row));
                if (loss < bestLoss) {
                    bestLoss = loss;
                    best = third;
                }
            }
            return best;
        }

        // A word is put by itself and its place alone, so each is asked once.
        int rowPutAs(int[] state, int third, int row) {
            for (int at = 0; at < SAY_WORDS; at++) {
                for (int word = 0; word < WORDS; word++) {
                    puts[at * WORDS + word] = talk.putWord(state, third, word, at);
                }
            }
            for (int size = 0; size <= SAY_WORDS; size++) {
                markEnds(size, row);
                if (ends[0]) {
                    return leastRow(size, row);
                }
            }
            return NOBODY;
        }

        private void markEnds(int size, int row) {
            int wanted = Rows.size(row);
            for (int had = 0; had <= MAX_WORDS; had++) {
                ends[endAt(size, had)] = had == wanted;
            }
            for (int at = size - 1; at >= 0; at--) {
                for (int had = 0; had <= MAX_WORDS; had++) {
                    ends[endAt(at, had)] = fittingWord(at, had, row) != NONE;
                }
            }
        }

        private static int endAt(int at, int had) {
            return at * (MAX_WORDS + 1) + had;
        }

        private int fittingWord(int at, int had, int row) {
            int wanted = Rows.size(row);
            for (int word = 0; word < WORDS; word++) {
                int put = puts[at * WORDS + word];
                if (put == LEFT_OUT) {
                    if (ends[endAt(at + 1, had)]) {
                        return word;
                    }
                } else if (had < wanted && put == Rows.wordAt(row, wanted, had)
                        && ends[endAt(at + 1, had + 1)]) {
                    return word;
                }
            }
            return NONE;
        }

        private int leastRow(int size, int row) {
            int found = EMPTY_ROW;
            int had = 0;
            for (int at = 0; at < size && had <= MAX_WORDS; at++) {
                int word = fittingWord(at, had, row);
                if (word == NONE) {
                    return NOBODY;
                }
                had += puts[at * WORDS + word] == LEFT_OUT ? 0 : 1;
                found = Rows.with(found, word);
            }
            return found;
        }

        int bestHire(int[] state, int couple) {
            int together = fillLosses(state);
            if (together > text.thirds) {
                return NOBODY;
            }
            int ways = 1;
            for (int i = 0; i < together; i++) {
                ways *= text.thirds;
            }
            int best = 0;
            int bestLoss = ENDLESS;
            for (int way = 0; way < ways; way++) {
                int loss = lossOf(way, together);
                if (loss < bestLoss) {
                    bestLoss = loss;
                    best = way;
                }
            }
            return couple == NONE ? bestLoss : thirdFor(state, couple, best, together);
        }

        // Losses stand by the couples that have not parted, in their order; answers how many.
        private int fillLosses(int[] state) {
            int together = 0;
            for (int couple = 0; couple < text.couples && couple < MAX_COUPLES; couple++) {
                if (state[PARTED + couple] == 0) {
                    int said = talk.rowOf(state, talk.speakerOf(state, couple));
                    for (int third = 0; third < text.thirds; third++) {
                        losses[together * MAX_THIRDS + third] =
                            rows.changes(said, talk.putRow(state, third, said));
                    }
                    together++;
                }
            }
            return together;
        }

        // The first couple's third is the highest digit of a way, so ways come in the order due.
        private void choose(int way, int together) {
            int rest = way;
            for (int i = together - 1; i >= 0; i--) {
                chosen[i] = text.thirds > 0 ? rest % text.thirds : 0;
                rest = text.thirds > 0 ? rest / text.thirds : 0;
            }
        }

        private int lossOf(int way, int together) {
            choose(way, together);
            int taken = 0;
            int loss = 0;
            for (int i = 0; i < together; i++) {
                int bit = 1 << chosen[i];
                if ((taken & bit) != 0) {
                    return ENDLESS;
                }
                taken |= bit;
                loss += losses[i * MAX_THIRDS + chosen[i]];
            }
            return loss;
        }

        private int thirdFor(int[] state, int couple, int way, int together) {
            if (state[PARTED + couple] != 0) {
                return NOBODY;
            }
            choose(way, together);
            int ahead = 0;
            for (int i = 0; i < couple; i++) {
                ahead += state[PARTED + i] == 0 ? 1 : 0;
            }
            return ahead < together ? chosen[ahead] : NOBODY;
        }
    }

    /** What WEEKS would bring, gone through on a copy. */
    private static final class Future {
        private final Text text;
        private final Talk talk;
        private final int[] later = new int[STATE_SIZE];
        private final int[] earned = new int[(1 << MAX_THIRDS) * MAX_THIRDS];

        Future(Text text, Talk talk) {
            this.text = text;
            this.talk = talk;
        }

        int[] behind(int[] state, int n) {
            System.arraycopy(state, 0, later, 0, STATE_SIZE);
            for (int i = 0; i < n; i++) {
                talk.goThroughWeek(later, text.seed);
            }
            return later;
        }

        int weeksToPart(int[] state, int couple, int most, int seed) {
            System.arraycopy(state, 0, later, 0, STATE_SIZE);
            for (int week = 0; week < most; week++) {
                if (later[PARTED + couple] != 0) {
                    return week;
                }
                talk.goThroughWeek(later, seed);
            }
            return later[PARTED + couple] != 0 ? most : NOBODY;
        }

        void tryOaths(int[] state, int n, int set) {
            System.arraycopy(state, 0, later, 0, STATE_SIZE);
            for (int third = 0; third < text.thirds; third++) {
                later[SWORN + third] = (set >>> third) & 1;
            }
            for (int i = 0; i < n; i++) {
                talk.goThroughWeek(later, text.seed);
            }
            for (int third = 0; third < text.thirds; third++) {
                earned[set * MAX_THIRDS + third] = later[EARNED + third];
            }
        }

        int restingOaths(int wanted) {
            int found = 0;
            for (int set = 0; set < 1 << text.thirds; set++) {
                if (isResting(set)) {
                    if (found == wanted) {
                        return set;
                    }
                    found++;
                }
            }
            return wanted == NONE ? found : NONE;
        }

        private boolean isResting(int set) {
            for (int third = 0; third < text.thirds; third++) {
                int other = set ^ (1 << third);
                if (earned[other * MAX_THIRDS + third] > earned[set * MAX_THIRDS + third]) {
                    return false;
                }
            }
            return true;
        }
    }

    /** What was TOLD, and who may have interpreted so. */
    private static final class Guess {
        private final Text text;
        private final Talk talk;
        private final int[] words = new int[TOLD_ROOM];
        private final int[] putAs = new int[TOLD_ROOM];
        private int size;

        Guess(Text text, Talk talk) {
            this.text = text;
            this.talk = talk;
        }

        void clear() {
            size = 0;
        }

        int add(int word, int row) {
            if (size < 0 || size >= TOLD_ROOM) {
                return NONE;
            }
            words[size] = word;
            putAs[size] = row;
            size++;
            return size - 1;
        }

        boolean isKnown(int k) {
            return k >= 0 && k <= size;
        }

        int candidates(int[] state, int k) {
            int bits = 0;
            for (int third = 0; third < text.thirds; third++) {
                if (mayHave(state, third, k)) {
                    bits |= 1 << third;
                }
            }
            return bits;
        }

        private boolean mayHave(int[] state, int third, int k) {
            for (int i = 0; i < k && i < TOLD_ROOM; i++) {
                int put = talk.putWord(state, third, words[i], 0);
                if ((put == LEFT_OUT ? EMPTY_ROW : Rows.with(EMPTY_ROW, put)) != putAs[i]) {
                    return false;
                }
            }
            return true;
        }

        int bestWord(int[] state, int k) {
            int bits = candidates(state, k);
            if (bits == 0) {
                return NOBODY;
            }
            int best = NOBODY;
            int bestLeft = ENDLESS;
            for (int word = 0; word < WORDS; word++) {
                int left = mostLeft(state, bits, word);
                if (left < bestLeft) {
                    bestLeft = left;
                    best = word;
                }
            }
            return best;
        }

        private int mostLeft(int[] state, int bits, int word) {
            int most = 0;
            for (int third = 0; third < text.thirds; third++) {
                if ((bits >>> third & 1) != 0) {
                    int put = talk.putWord(state, third, word, 0);
                    most = Math.max(most, leftBy(state, bits, word, put));
                }
            }
            return most;
        }

        private int leftBy(int[] state, int bits, int word, int put) {
            int left = 0;
            for (int third = 0; third < text.thirds; third++) {
                if ((bits >>> third & 1) != 0 && talk.putWord(state, third, word, 0) == put) {
                    left++;
                }
            }
            return left;
        }
    }
}
