/** A town without walls whose roofs hang from kites; ../shared/DOC.md says what each call must do. */
public final class KiteRoofs {
    public static final int NONE = -1;

    private static final int TIED = -2;
    private static final int REFUSED = -3;

    private static final int TAPE = 1600;
    private static final int ROOFS = 4;
    private static final int KITES = 8;
    private static final int BOYS = 4;
    private static final int HEIGHTS = 9;
    private static final int BOXES = 3;
    private static final int LAST_DAY = 999;

    // Where each thing stands in a row. All that hours and ACTS can change stands in one row,
    // so that undoing, boxes and looks ahead are plain copies of it.
    private static final int HEIGHT = 0;
    private static final int HOLDER = 8;
    private static final int LOST = 16;
    private static final int AGE = 24;
    private static final int LEFT = 32;
    private static final int DOWN = 36;
    private static final int HOUR = 40;
    private static final int DAY = 41;
    private static final int SEED = 42;
    private static final int ROW = 43;

    private Town told = new Town();
    private Town draft = new Town();
    private final byte[] tape = new byte[TAPE];
    private final Teller teller = new Teller(tape, draft);
    private final Look look = new Look(told);
    private final Ahead ahead = new Ahead(look);
    private final Plans plans = new Plans(look);
    private final Stranger stranger = new Stranger(look);
    private final Acts acts = new Acts();
    private final int[] now = new int[ROW];
    private final int[][] boxes = new int[BOXES][ROW];
    private final int[] lying = new int[KITES];
    private int tapeLength;
    private int filledBoxes;
    private int lyingCount;

    public KiteRoofs() {
        copyRow(told.start, now);
    }

    public int feed(int a, int b, int c, int d, int e) {
        if (tapeLength + 20 > TAPE) {
            return NONE;
        }
        putFour(a);
        putFour(b);
        putFour(c);
        putFour(d);
        putFour(e);
        return tapeLength;
    }

    public int end(int n) {
        if (n < 0 || n > tapeLength) {
            return NONE;
        }
        tapeLength = n;
        return n;
    }

    public int town() {
        boolean sound = teller.tell(draft, tapeLength);
        tapeLength = 0;
        if (!sound) {
            return NONE;
        }
        Town old = told;
        told = draft;
        draft = old;
        look.town = told;
        copyRow(told.start, now);
        acts.forget();
        stranger.forget();
        filledBoxes = 0;
        lyingCount = 0;
        return told.kites;
    }

    public int fault(int what) {
        switch (what) {
            case 0: return teller.fault;
            case 1: return teller.place;
            default: return NONE;
        }
    }

    public int kite(int kite, int what) {
        if (!isKite(kite)) {
            return REFUSED;
        }
        lookNow();
        switch (what) {
            case 0: return now[HEIGHT + kite];
            case 1: return now[HOLDER + kite];
            case 2: return now[LOST + kite];
            case 3: return now[AGE + kite];
            case 4: return look.place[kite];
            case 5: return look.lift[kite];
            case 6: return look.held >> kite & 1;
            case 7: return look.pull[kite];
            case 8: return look.bears[kite];
            case 9: return told.roofOf[kite];
            default: return REFUSED;
        }
    }

    public int roof(int roof, int what) {
        if (!isRoof(roof)) {
            return NONE;
        }
        lookNow();
        switch (what) {
            case 0: return told.weight[roof];
            case 1: return look.roofPull[roof];
            case 2: return look.upRoofs >> roof & 1;
            case 3: return now[DOWN + roof];
            case 4: return told.kitesOf(roof);
            case 5: return told.yard[roof];
            default: return NONE;
        }
    }

    public int boy(int boy, int what) {
        if (boy < 0 || boy >= told.boys) {
            return NONE;
        }
        lookNow();
        switch (what) {
            case 0: return told.arms[boy];
            case 1: return now[LEFT + boy];
            case 2: return look.load[boy];
            case 3: return look.carried[boy];
            default: return NONE;
        }
    }

    public int force(int height, int gust) {
        if (height < 1 || height > HEIGHTS || gust < 0 || gust > 1) {
            return NONE;
        }
        look.blow(now, gust == 1);
        return look.forces[height];
    }

    public int near(int kite, int what) {
        if (!isKite(kite)) {
            return NONE;
        }
        lookNow();
        switch (what) {
            case 0: return look.nearTo[kite];
            case 1: return look.crosses[kite];
            default: return NONE;
        }
    }

    public int up() {
        lookNow();
        return look.upRoofs;
    }

    public int fly(int kite, int height) {
        if (!isKite(kite) || height < 0 || height > HEIGHTS || now[LOST + kite] != 0) {
            return NONE;
        }
        int was = now[HEIGHT + kite];
        if (was == height) {
            return NONE;
        }
        acts.keep(now);
        now[HEIGHT + kite] = height;
        return was;
    }

    public int tie(int kite) {
        return isKite(kite) ? handOver(kite, TIED) : REFUSED;
    }

    public int give(int kite, int boy) {
        if (!isKite(kite) || boy < NONE || boy >= told.boys) {
            return REFUSED;
        }
        return handOver(kite, boy);
    }

    public int mend(int kite) {
        if (!isKite(kite) || now[LOST + kite] == 0) {
            return NONE;
        }
        acts.keep(now);
        int age = now[AGE + kite];
        now[LOST + kite] = 0;
        now[AGE + kite] = 0;
        now[HEIGHT + kite] = 0;
        return age;
    }

    public int hour() {
        if (now[HOUR] == 23 && now[DAY] >= LAST_DAY) {
            return NONE;
        }
        acts.keep(now);
        return ahead.passHour(now, ahead.drawsGust(now));
    }

    public boolean undo() {
        return acts.takeBack(now);
    }

    public boolean redo() {
        return acts.doAgain(now);
    }

    public int will(int n) {
        return n < 1 || n > Ahead.FAR ? NONE : ahead.upInHour(now, n);
    }

    public int calm(int roof) {
        return isRoof(roof) ? ahead.firstDown(now, roof) : NONE;
    }

    public int downs(int roof, int n) {
        return isRoof(roof) && n >= 0 && n <= Ahead.FAR ? ahead.downsOf(now, roof, n) : NONE;
    }

    public int best(int kite, int what) {
        if (!isKite(kite) || now[LOST + kite] != 0 || !isZeroOrOne(what)) {
            return NONE;
        }
        plans.findBest(now, kite);
        return what == 0 ? plans.first : plans.second;
    }

    public int fewest(int roof, int what) {
        if (!isRoof(roof) || !isZeroOrOne(what)) {
            return NONE;
        }
        plans.findFewest(now, roof);
        return what == 0 ? plans.first : plans.second;
    }

    public int crew(int what) {
        if (!isZeroOrOne(what)) {
            return NONE;
        }
        plans.findCrew(now);
        return what == 0 ? plans.first : plans.second;
    }

    public int guard(int what) {
        if (!isZeroOrOne(what)) {
            return NONE;
        }
        plans.findGuard(now);
        return what == 0 ? plans.first : plans.second;
    }

    public int lend() {
        lyingCount = 0;
        if (told.roofs == 0) {
            return NONE;
        }
        lyingCount = told.kites;
        return plans.findLending(now, lying);
    }

    public int odds(int roof, int n, int part) {
        if (!isRoof(roof) || n < 0 || n > Ahead.ODDS_HOURS || !isZeroOrOne(part)) {
            return NONE;
        }
        return ahead.oddsPart(now, roof, n, part);
    }

    public int law(int k) {
        return k < 0 || k > 10 ? -1000 : ahead.moreDowns(now, k);
    }

    public int lies(int i) {
        return i < 0 || i >= lyingCount ? NONE : lying[i];
    }

    public int stolen(int kite, boolean is) {
        return isKite(kite) ? stranger.hear(kite, is) : NONE;
    }

    public boolean untell(int stolen) {
        return stranger.unhear(stolen);
    }

    public int later(int by) {
        return by < 0 || by > 1000 ? NONE : stranger.goOn(by);
    }

    public int spots(int k) {
        lookNow();
        stranger.search(now, k);
        return stranger.found;
    }

    public int sure(int k) {
        lookNow();
        stranger.search(now, k);
        return stranger.height;
    }

    public int ask(int what, int k) {
        if (!isZeroOrOne(what)) {
            return NONE;
        }
        lookNow();
        stranger.search(now, k);
        int kite = stranger.bestToAsk();
        return what == 0 || kite == NONE ? kite : stranger.leftAtMost(kite);
    }

    public int image(int box) {
        if (box < 0 || box >= BOXES) {
            return NONE;
        }
        copyRow(now, boxes[box]);
        filledBoxes |= 1 << box;
        return now[DAY];
    }

    public int back(int box) {
        if (box < 0 || box >= BOXES || (filledBoxes >> box & 1) == 0) {
            return NONE;
        }
        copyRow(boxes[box], now);
        acts.forget();
        return now[DAY];
    }

    public int about(int what) {
        switch (what) {
            case 0: return told.kites;
            case 1: return told.roofs;
            case 2: return told.boys;
            case 3: return now[HOUR];
            case 4: return now[DAY];
            case 5: return now[SEED];
            case 6: return told.flying(now);
            case 7: return told.lost(now);
            case 8: return acts.done;
            case 9: return acts.all - acts.done;
            case 10: return stranger.count;
            case 11: return stranger.time;
            case 12: return tapeLength;
            case 13: return told.wind.units + told.lift.units;
            case 14: return lyingCount;
            default: return NONE;
        }
    }

    private void putFour(int bytes) {
        for (int shift = 24; shift >= 0; shift -= 8) {
            if (tapeLength < TAPE) {
                tape[tapeLength] = (byte) (bytes >> shift);
                tapeLength++;
            }
        }
    }

    private void lookNow() {
        look.blow(now, false);
        look.watch(now);
    }

    private int handOver(int kite, int holder) {
        int had = now[HOLDER + kite];
        if (had == holder) {
            return REFUSED;
        }
        acts.keep(now);
        now[HOLDER + kite] = holder;
        return had;
    }

    private boolean isKite(int kite) {
        return kite >= 0 && kite < told.kites;
    }

    private boolean isRoof(int roof) {
        return roof >= 0 && roof < told.roofs;
    }

    private static boolean isZeroOrOne(int what) {
        return what == 0 || what == 1;
    }

    private static void copyRow(int[] from, int[] to) {
        System.arraycopy(from, 0, to, 0, ROW);
    }

    private static int within(int least, int value, int most) {
        return Math.max(least, Math.min(value, most));
    }

    /** Wind or lift: its steps in the order in which they are done, each behind what it joins. */
    private static final class Formula {
        static final int UNITS = 30;
        // 30 units, 29 joinings of two, and up to 7 nots before each unit.
        static final int STEPS = 300;

        // A step is a number from 0 on, one of the given values (-1 to -7), or one of these.
        static final int NOT = -8;
        static final int OR = -9;
        static final int AND = -10;
        static final int LESS = -11;
        static final int MORE = -12;
        static final int SAME = -13;
        static final int PLUS = -14;
        static final int MINUS = -15;
        static final int TIMES = -16;
        static final int OVER = -17;
        static final int REST = -18;

        // Where each value stands among the given ones.
        static final int HEIGHT_VALUE = 0;
        static final int HOUR_VALUE = 1;
        static final int DAY_VALUE = 2;
        static final int SIZE_VALUE = 3;
        static final int FORCE_VALUE = 4;
        static final int NEAR_VALUE = 5;
        static final int AGE_VALUE = 6;
        static final int VALUES = 7;

        final int[] steps = new int[STEPS];
        final int[] stack = new int[UNITS];
        int length;
        int units;

        void clear() {
            length = 0;
            units = 0;
        }

        boolean isTold() {
            return length > 0;
        }

        void add(int step) {
            if (length < STEPS) {
                steps[length] = step;
                length++;
            }
        }

        int result(int[] given) {
            int top = 0;
            for (int i = 0; i < length; i++) {
                int step = steps[i];
                if (step > NOT) {
                    if (top >= UNITS) {
                        return 0;
                    }
                    stack[top] = step >= 0 ? step : given[-1 - step];
                    top++;
                } else if (top == 0 || step < NOT && top == 1) {
                    return 0;
                } else if (step == NOT) {
                    stack[top - 1] = stack[top - 1] == 0 ? 1 : 0;
                } else {
                    top--;
                    stack[top - 1] = joined(step, stack[top - 1], stack[top]);
                }
            }
            return top == 0 ? 0 : stack[0];
        }

        private static int joined(int step, int a, int b) {
            switch (step) {
                case OR: return a != 0 || b != 0 ? 1 : 0;
                case AND: return a != 0 && b != 0 ? 1 : 0;
                case LESS: return a < b ? 1 : 0;
                case MORE: return a > b ? 1 : 0;
                case SAME: return a == b ? 1 : 0;
                case PLUS: return a + b;
                case MINUS: return a - b;
                case TIMES: return a * b;
                case OVER: return b == 0 ? 0 : a / b;
                case REST: return b == 0 ? 0 : a % b;
                default: return 0;
            }
        }
    }

    /** All that a text has told. */
    private static final class Town {
        final long[] roofNames = new long[ROOFS];
        final long[] kiteNames = new long[KITES];
        final long[] boyNames = new long[BOYS];
        final int[] yard = new int[ROOFS];
        final int[] weight = new int[ROOFS];
        final int[] roofOf = new int[KITES];
        final int[] spool = new int[KITES];
        final int[] size = new int[KITES];
        final int[] cord = new int[KITES];
        final int[] arms = new int[BOYS];
        final int[] hours = new int[BOYS];
        final int[] start = new int[ROW];
        final Formula wind = new Formula();
        final Formula lift = new Formula();
        int roofs;
        int kites;
        int boys;
        int gustOfHundred;
        int gustForce;

        Town() {
            clear();
        }

        void clear() {
            roofs = 0;
            kites = 0;
            boys = 0;
            gustOfHundred = 0;
            gustForce = 1;
            wind.clear();
            lift.clear();
            for (int i = 0; i < ROW; i++) {
                start[i] = i >= HOLDER && i < HOLDER + KITES ? NONE : 0;
            }
        }

        int kitesOf(int roof) {
            int bits = 0;
            for (int k = 0; k < kites; k++) {
                if (roofOf[k] == roof) {
                    bits |= 1 << k;
                }
            }
            return bits;
        }

        int flying(int[] row) {
            int bits = 0;
            for (int k = 0; k < kites; k++) {
                if (row[LOST + k] == 0 && row[HEIGHT + k] > 0) {
                    bits |= 1 << k;
                }
            }
            return bits;
        }

        int lost(int[] row) {
            int bits = 0;
            for (int k = 0; k < kites; k++) {
                bits |= row[LOST + k] << k;
            }
            return bits;
        }
    }

    /** Parts a text into TOKENS, one at a time. */
    private static final class Reader {
        static final int END = 0;
        static final int NO_TOKEN = 1;
        static final int WORD = 2;
        static final int NUMBER = 3;
        static final int SIGN = 4;

        private static final int WORD_LETTERS = 8;
        private static final int NUMBER_DIGITS = 4;

        private final byte[] text;
        private int length;
        private int at;
        int kind;
        int place;
        int number;
        int sign;
        // The letters of a word, eight bits each: words are the same if these are.
        long word;

        Reader(byte[] text) {
            this.text = text;
        }

        void open(int bytes) {
            length = within(0, bytes, text.length);
            at = 0;
            next();
        }

        void next() {
            while (at < length && (text[at] == ' ' || text[at] == '\n')) {
                at++;
            }
            place = at;
            if (at >= length) {
                kind = END;
            } else if (isLetter(text[at])) {
                readWord();
            } else if (isDigit(text[at])) {
                readNumber();
            } else {
                readSign(text[at]);
            }
        }

        boolean isWord(long key) {
            return kind == WORD && word == key;
        }

        boolean isSign(int key) {
            return kind == SIGN && sign == key;
        }

        private void readWord() {
            word = 0;
            while (at < length && isLetter(text[at])) {
                word = word << 8 | text[at];
                at++;
            }
            kind = at - place > WORD_LETTERS ? NO_TOKEN : WORD;
        }

        private void readNumber() {
            number = 0;
            while (at < length && isDigit(text[at])) {
                number = number * 10 + text[at] - '0';
                at++;
            }
            boolean letterBehind = at < length && isLetter(text[at]);
            kind = letterBehind || at - place > NUMBER_DIGITS ? NO_TOKEN : NUMBER;
        }

        private void readSign(int c) {
            sign = c;
            at++;
            switch (c) {
                case ';': case '(': case ')': case '<': case '>': case '=':
                case '+': case '-': case '*': case '/': case '%':
                    kind = SIGN;
                    break;
                default:
                    kind = NO_TOKEN;
                    break;
            }
        }

        private static boolean isLetter(int c) {
            return c >= 'a' && c <= 'z';
        }

        private static boolean isDigit(int c) {
            return c >= '0' && c <= '9';
        }
    }

    /** Makes a TOWN of a text, line by line, till its end or its first FAULT. */
    private static final class Teller {
        // Words as a Reader has them: their letters, eight bits each.
        static final long ROOF_WORD = 0x726F6F66L;
        static final long AT_WORD = 0x6174L;
        static final long WEIGHT_WORD = 0x776569676874L;
        static final long KITE_WORD = 0x6B697465L;
        static final long OF_WORD = 0x6F66L;
        static final long SIZE_WORD = 0x73697A65L;
        static final long CORD_WORD = 0x636F7264L;
        static final long HEIGHT_WORD = 0x686569676874L;
        static final long TIED_WORD = 0x74696564L;
        static final long BOY_WORD = 0x626F79L;
        static final long ARMS_WORD = 0x61726D73L;
        static final long HOURS_WORD = 0x686F757273L;
        static final long HOLDS_WORD = 0x686F6C6473L;
        static final long WIND_WORD = 0x77696E64L;
        static final long LIFT_WORD = 0x6C696674L;
        static final long GUST_WORD = 0x67757374L;
        static final long DRAW_WORD = 0x64726177L;
        static final long OR_WORD = 0x6F72L;
        static final long AND_WORD = 0x616E64L;
        static final long NOT_WORD = 0x6E6F74L;
        static final long HOUR_WORD = 0x686F7572L;
        static final long DAY_WORD = 0x646179L;
        static final long FORCE_WORD = 0x666F726365L;
        static final long NEAR_WORD = 0x6E656172L;
        static final long AGE_WORD = 0x616765L;

        private static final long[] NO_NAMES = {
            ROOF_WORD, AT_WORD, WEIGHT_WORD, KITE_WORD, OF_WORD, SIZE_WORD, CORD_WORD, HEIGHT_WORD, TIED_WORD,
            BOY_WORD, ARMS_WORD, HOURS_WORD, HOLDS_WORD, WIND_WORD, LIFT_WORD, GUST_WORD, DRAW_WORD, OR_WORD,
            AND_WORD, NOT_WORD, HOUR_WORD, DAY_WORD, FORCE_WORD, NEAR_WORD, AGE_WORD
        };

        private static final int CANNOT_STAND = 2;
        private static final int TOLD_ALREADY = 3;
        private static final int CANNOT_BE = 4;
        private static final int UNKNOWN = 5;

        private static final int DEEPEST = 6;
        private static final int USUAL_HOURS = 4;

        private final Reader reader;
        private Town town;
        private Formula formula;
        private boolean gustTold;
        private boolean drawTold;
        // What a NAME or an N that could stand came to.
        private int got;
        int fault;
        int place = NONE;

        Teller(byte[] text, Town draft) {
            reader = new Reader(text);
            town = draft;
            formula = draft.wind;
        }

        boolean tell(Town draft, int bytes) {
            town = draft;
            town.clear();
            gustTold = false;
            drawTold = false;
            fault = 0;
            place = NONE;
            reader.open(bytes);
            // Each line takes a byte at least.
            for (int i = 0; i < bytes && reader.kind != Reader.END; i++) {
                if (!tellLine()) {
                    return false;
                }
            }
            return true;
        }

        private boolean tellLine() {
            boolean sound;
            if (reader.isWord(ROOF_WORD)) {
                sound = tellRoof();
            } else if (reader.isWord(KITE_WORD)) {
                sound = tellKite();
            } else if (reader.isWord(BOY_WORD)) {
                sound = tellBoy();
            } else if (reader.isWord(HOLDS_WORD)) {
                sound = tellHolds();
            } else if (reader.isWord(WIND_WORD) || reader.isWord(LIFT_WORD)) {
                formula = reader.isWord(WIND_WORD) ? town.wind : town.lift;
                sound = begin(!formula.isTold()) && takeAny(0);
            } else if (reader.isWord(GUST_WORD)) {
                sound = tellGust();
            } else if (reader.isWord(DRAW_WORD)) {
                sound = tellDraw();
            } else {
                sound = refuse(CANNOT_STAND);
            }
            return sound && takeSign(';');
        }

        private boolean tellRoof() {
            int r = town.roofs;
            if (!begin(r < ROOFS) || !takeNewName(town.roofNames, r)) {
                return false;
            }
            if (!takeWord(AT_WORD) || !takeNumber(0, 19)) {
                return false;
            }
            town.yard[r] = got;
            if (!takeWord(WEIGHT_WORD) || !takeNumber(0, 999)) {
                return false;
            }
            town.weight[r] = got;
            town.roofs++;
            return true;
        }

        private boolean tellKite() {
            int k = town.kites;
            if (!begin(k < KITES) || !takeNewName(town.kiteNames, k)) {
                return false;
            }
            if (!takeWord(OF_WORD) || !takeOldName(town.roofNames, town.roofs)) {
                return false;
            }
            town.roofOf[k] = got;
            if (!takeWord(AT_WORD) || !takeNumber(0, 19)) {
                return false;
            }
            town.spool[k] = got;
            if (!takeWord(SIZE_WORD) || !takeNumber(1, 9)) {
                return false;
            }
            town.size[k] = got;
            if (!takeWord(CORD_WORD) || !takeNumber(1, 999)) {
                return false;
            }
            town.cord[k] = got;
            if (reader.isWord(HEIGHT_WORD)) {
                if (!takeWord(HEIGHT_WORD) || !takeNumber(0, HEIGHTS)) {
                    return false;
                }
                town.start[HEIGHT + k] = got;
            }
            if (reader.isWord(TIED_WORD)) {
                reader.next();
                town.start[HOLDER + k] = TIED;
            }
            town.kites++;
            return true;
        }

        private boolean tellBoy() {
            int b = town.boys;
            if (!begin(b < BOYS) || !takeNewName(town.boyNames, b) || !takeWord(ARMS_WORD) || !takeNumber(1, 999)) {
                return false;
            }
            town.arms[b] = got;
            town.hours[b] = USUAL_HOURS;
            if (reader.isWord(HOURS_WORD)) {
                if (!takeWord(HOURS_WORD) || !takeNumber(1, 24)) {
                    return false;
                }
                town.hours[b] = got;
            }
            town.start[LEFT + b] = town.hours[b];
            town.boys++;
            return true;
        }

        private boolean tellHolds() {
            reader.next();
            if (!takeOldName(town.boyNames, town.boys)) {
                return false;
            }
            int boy = got;
            int kite = find(town.kiteNames, town.kites);
            if (kite >= 0 && town.start[HOLDER + kite] != NONE) {
                return refuse(TOLD_ALREADY);
            }
            if (!takeOldName(town.kiteNames, town.kites)) {
                return false;
            }
            town.start[HOLDER + kite] = boy;
            return true;
        }

        private boolean tellGust() {
            if (!begin(!gustTold) || !takeNumber(0, 100)) {
                return false;
            }
            town.gustOfHundred = got;
            if (!takeWord(OF_WORD) || !takeNumber(1, 20)) {
                return false;
            }
            town.gustForce = got;
            gustTold = true;
            return true;
        }

        private boolean tellDraw() {
            if (!begin(!drawTold) || !takeNumber(0, 999)) {
                return false;
            }
            town.start[SEED] = got;
            drawTold = true;
            return true;
        }

        private boolean takeAny(int depth) {
            if (!takeBoth(depth)) {
                return false;
            }
            for (int i = 0; i < Formula.UNITS && reader.isWord(OR_WORD); i++) {
                reader.next();
                if (!takeBoth(depth)) {
                    return false;
                }
                formula.add(Formula.OR);
            }
            return true;
        }

        private boolean takeBoth(int depth) {
            if (!takeOne(depth)) {
                return false;
            }
            for (int i = 0; i < Formula.UNITS && reader.isWord(AND_WORD); i++) {
                reader.next();
                if (!takeOne(depth)) {
                    return false;
                }
                formula.add(Formula.AND);
            }
            return true;
        }

        private boolean takeOne(int depth) {
            if (reader.isWord(NOT_WORD)) {
                return takeNot(depth);
            }
            if (!takeSum(depth)) {
                return false;
            }
            int step = relationStep();
            if (step == 0) {
                return true;
            }
            reader.next();
            if (!takeSum(depth)) {
                return false;
            }
            formula.add(step);
            return true;
        }

        private boolean takeNot(int depth) {
            if (depth > DEEPEST) {
                return refuse(CANNOT_STAND);
            }
            reader.next();
            if (!takeOne(depth + 1)) {
                return false;
            }
            formula.add(Formula.NOT);
            return true;
        }

        private boolean takeSum(int depth) {
            if (!takeTerm(depth)) {
                return false;
            }
            for (int i = 0; i < Formula.UNITS && sumStep() != 0; i++) {
                int step = sumStep();
                reader.next();
                if (!takeTerm(depth)) {
                    return false;
                }
                formula.add(step);
            }
            return true;
        }

        private boolean takeTerm(int depth) {
            if (!takeUnit(depth)) {
                return false;
            }
            for (int i = 0; i < Formula.UNITS && termStep() != 0; i++) {
                int step = termStep();
                reader.next();
                if (!takeUnit(depth)) {
                    return false;
                }
                formula.add(step);
            }
            return true;
        }

        private boolean takeUnit(int depth) {
            if (formula.units >= Formula.UNITS) {
                return refuse(CANNOT_STAND);
            }
            if (reader.isSign('(')) {
                if (depth > DEEPEST) {
                    return refuse(CANNOT_STAND);
                }
                return takeInner(depth);
            }
            int value = reader.kind == Reader.WORD ? valueOfWord(reader.word) : NONE;
            if (reader.kind != Reader.NUMBER && value == NONE) {
                return refuse(CANNOT_STAND);
            }
            formula.units++;
            formula.add(value == NONE ? reader.number : -1 - value);
            reader.next();
            return true;
        }

        private boolean takeInner(int depth) {
            formula.units++;
            reader.next();
            if (!takeAny(depth + 1)) {
                return false;
            }
            if (!reader.isSign(')')) {
                return refuse(CANNOT_STAND);
            }
            reader.next();
            return true;
        }

        private int relationStep() {
            if (reader.isSign('<')) {
                return Formula.LESS;
            }
            if (reader.isSign('>')) {
                return Formula.MORE;
            }
            return reader.isSign('=') ? Formula.SAME : 0;
        }

        private int sumStep() {
            if (reader.isSign('+')) {
                return Formula.PLUS;
            }
            return reader.isSign('-') ? Formula.MINUS : 0;
        }

        private int termStep() {
            if (reader.isSign('*')) {
                return Formula.TIMES;
            }
            if (reader.isSign('/')) {
                return Formula.OVER;
            }
            return reader.isSign('%') ? Formula.REST : 0;
        }

        private static int valueOfWord(long word) {
            if (word == HEIGHT_WORD) {
                return Formula.HEIGHT_VALUE;
            }
            if (word == HOUR_WORD) {
                return Formula.HOUR_VALUE;
            }
            if (word == DAY_WORD) {
                return Formula.DAY_VALUE;
            }
            if (word == SIZE_WORD) {
                return Formula.SIZE_VALUE;
            }
            if (word == FORCE_WORD) {
                return Formula.FORCE_VALUE;
            }
            if (word == NEAR_WORD) {
                return Formula.NEAR_VALUE;
            }
            return word == AGE_WORD ? Formula.AGE_VALUE : NONE;
        }

        /** Goes behind the line's first word, where a FAULT stands if there is no room for the line. */
        private boolean begin(boolean room) {
            if (!room) {
                return refuse(CANNOT_STAND);
            }
            reader.next();
            return true;
        }

        private boolean takeWord(long key) {
            if (!reader.isWord(key)) {
                return refuse(CANNOT_STAND);
            }
            reader.next();
            return true;
        }

        private boolean takeSign(int key) {
            if (!reader.isSign(key)) {
                return refuse(CANNOT_STAND);
            }
            reader.next();
            return true;
        }

        private boolean takeNumber(int least, int most) {
            if (reader.kind != Reader.NUMBER) {
                return refuse(CANNOT_STAND);
            }
            if (reader.number < least || reader.number > most) {
                return refuse(CANNOT_BE);
            }
            got = reader.number;
            reader.next();
            return true;
        }

        private boolean takeNewName(long[] names, int count) {
            if (!isName()) {
                return refuse(CANNOT_STAND);
            }
            if (find(names, count) != NONE) {
                return refuse(TOLD_ALREADY);
            }
            if (count < names.length) {
                names[count] = reader.word;
            }
            reader.next();
            return true;
        }

        private boolean takeOldName(long[] names, int count) {
            if (!isName()) {
                return refuse(CANNOT_STAND);
            }
            got = find(names, count);
            if (got == NONE) {
                return refuse(UNKNOWN);
            }
            reader.next();
            return true;
        }

        private boolean isName() {
            if (reader.kind != Reader.WORD) {
                return false;
            }
            for (int i = 0; i < NO_NAMES.length; i++) {
                if (NO_NAMES[i] == reader.word) {
                    return false;
                }
            }
            return true;
        }

        private int find(long[] names, int count) {
            for (int i = 0; i < count && i < names.length; i++) {
                if (reader.isWord(names[i])) {
                    return i;
                }
            }
            return NONE;
        }

        /** At one place the least FAULT counts: where there is no TOKEN, nothing else is said. */
        private boolean refuse(int kind) {
            fault = reader.kind == Reader.NO_TOKEN ? Reader.NO_TOKEN : kind;
            place = reader.place;
            return false;
        }
    }

    /** What is to be seen of a row in a TOWN: forces, places, lifts, pulls. */
    private static final class Look {
        static final int HALF = 5;

        private static final int USUAL_WIND = 5;
        private static final int MOST_FORCE = 20;
        private static final int MOST_LIFT = 999;

        Town town;
        // Of a LIFT that CROSSES so many of 10 parts are left.
        int partsLeft = HALF;
        int flying;
        int held;
        int upRoofs;
        final int[] forces = new int[HEIGHTS + 1];
        final int[] place = new int[KITES];
        final int[] nearTo = new int[KITES];
        final int[] crosses = new int[KITES];
        final int[] lift = new int[KITES];
        final int[] bears = new int[KITES];
        final int[] pull = new int[KITES];
        final int[] load = new int[BOYS];
        final int[] carried = new int[BOYS];
        final int[] roofPull = new int[ROOFS];
        private final int[] given = new int[Formula.VALUES];

        Look(Town town) {
            this.town = town;
        }

        /** Hears the wind of the row's hour; hour, day and forces stay so for all that is watched till the next. */
        void blow(int[] row, boolean gust) {
            for (int i = 0; i < Formula.VALUES; i++) {
                given[i] = 0;
            }
            given[Formula.HOUR_VALUE] = row[HOUR];
            given[Formula.DAY_VALUE] = row[DAY];
            for (int h = 1; h <= HEIGHTS; h++) {
                given[Formula.HEIGHT_VALUE] = h;
                int wind = town.wind.isTold() ? town.wind.result(given) : USUAL_WIND;
                if (gust) {
                    wind += town.gustForce;
                }
                forces[h] = within(0, wind, MOST_FORCE);
            }
        }

        void watch(int[] row) {
            flying = town.flying(row);
            findPlaces(row);
            findPairs(row);
            findLifts(row);
            findLoads(row);
            findPulls(row);
            findRoofs();
        }

        boolean flies(int kite) {
            return (flying >> kite & 1) != 0;
        }

        private void findPlaces(int[] row) {
            for (int k = 0; k < town.kites; k++) {
                int height = within(0, row[HEIGHT + k], HEIGHTS);
                place[k] = town.spool[k] + (flies(k) ? forces[height] * height / 10 : 0);
            }
        }

        private void findPairs(int[] row) {
            for (int i = 0; i < town.kites; i++) {
                nearTo[i] = 0;
                crosses[i] = 0;
                for (int j = 0; j < i; j++) {
                    if (!flies(i) || !flies(j)) {
                        continue;
                    }
                    if (isNear(row[HEIGHT + i] - row[HEIGHT + j], place[i] - place[j])) {
                        nearTo[i] |= 1 << j;
                        nearTo[j] |= 1 << i;
                    }
                    if (isBefore(i, j) || isBefore(j, i)) {
                        crosses[i] |= 1 << j;
                        crosses[j] |= 1 << i;
                    }
                }
            }
        }

        static boolean isNear(int heights, int places) {
            return Math.abs(heights) <= 1 && Math.abs(places) <= 2;
        }

        /** Whether i's spool is before j's, but its PLACE behind. */
        private boolean isBefore(int i, int j) {
            return town.spool[i] < town.spool[j] && place[i] > place[j];
        }

        private void findLifts(int[] row) {
            for (int k = 0; k < town.kites; k++) {
                lift[k] = 0;
                if (!flies(k)) {
                    continue;
                }
                int height = within(0, row[HEIGHT + k], HEIGHTS);
                given[Formula.HEIGHT_VALUE] = height;
                given[Formula.SIZE_VALUE] = town.size[k];
                given[Formula.FORCE_VALUE] = forces[height];
                given[Formula.NEAR_VALUE] = Integer.bitCount(nearTo[k]);
                given[Formula.AGE_VALUE] = row[AGE + k];
                int told = town.lift.isTold() ? town.lift.result(given) : town.size[k] * forces[height];
                int whole = within(0, told, MOST_LIFT);
                lift[k] = crosses[k] == 0 ? whole : whole * partsLeft / 10;
            }
        }

        private void findLoads(int[] row) {
            for (int b = 0; b < town.boys; b++) {
                load[b] = 0;
                carried[b] = 0;
                for (int k = 0; k < town.kites; k++) {
                    if (flies(k) && row[HOLDER + k] == b) {
                        load[b] += lift[k];
                        carried[b] |= 1 << k;
                    }
                }
            }
        }

        private void findPulls(int[] row) {
            held = 0;
            for (int k = 0; k < town.kites; k++) {
                if (flies(k) && isHeldBy(row, row[HOLDER + k])) {
                    held |= 1 << k;
                }
                bears[k] = Math.max(0, town.cord[k] - row[AGE + k] / 10);
                pull[k] = (held >> k & 1) != 0 && bears[k] >= lift[k] ? lift[k] : 0;
            }
        }

        private boolean isHeldBy(int[] row, int holder) {
            if (holder < 0 || holder >= town.boys) {
                return holder == TIED;
            }
            return row[LEFT + holder] > 0 && load[holder] <= town.arms[holder];
        }

        private void findRoofs() {
            upRoofs = 0;
            for (int r = 0; r < town.roofs; r++) {
                roofPull[r] = 0;
                for (int k = 0; k < town.kites; k++) {
                    if (town.roofOf[k] == r) {
                        roofPull[r] += pull[k];
                    }
                }
                if (roofPull[r] >= town.weight[r]) {
                    upRoofs |= 1 << r;
                }
            }
        }
    }

    /** Lets HOURS pass, for the town itself or on a copy of its row. */
    private static final class Ahead {
        static final int FAR = 60;
        static final int ODDS_HOURS = 4;

        private static final int LAW_HOURS = 24;

        private final Look look;
        private final int[] trial = new int[ROW];

        Ahead(Look look) {
            this.look = look;
        }

        boolean drawsGust(int[] row) {
            row[SEED] = (row[SEED] * 137 + 71) % 1000;
            return row[SEED] % 100 < look.town.gustOfHundred;
        }

        /** Lets an HOUR pass for a row: the ROOFS that were DOWN in it. */
        int passHour(int[] row, boolean gust) {
            Town town = look.town;
            look.blow(row, gust);
            look.watch(row);
            for (int r = 0; r < town.roofs; r++) {
                row[DOWN + r] += 1 - (look.upRoofs >> r & 1);
            }
            for (int b = 0; b < town.boys; b++) {
                if (look.carried[b] != 0) {
                    row[LEFT + b] = Math.max(0, row[LEFT + b] - 1);
                }
            }
            for (int k = 0; k < town.kites; k++) {
                if (look.flies(k)) {
                    row[AGE + k]++;
                    row[LOST + k] = (look.held >> k & 1) != 0 && look.bears[k] < look.lift[k] ? 1 : 0;
                }
            }
            turnHour(row);
            return (1 << town.roofs) - 1 & ~look.upRoofs;
        }

        private void turnHour(int[] row) {
            row[HOUR]++;
            if (row[HOUR] > 23) {
                row[HOUR] = 0;
                row[DAY]++;
                for (int b = 0; b < look.town.boys; b++) {
                    row[LEFT + b] = look.town.hours[b];
                }
            }
        }

        int upInHour(int[] now, int n) {
            copyRow(now, trial);
            for (int i = 0; i < n; i++) {
                passHour(trial, drawsGust(trial));
            }
            return look.upRoofs;
        }

        int firstDown(int[] now, int roof) {
            copyRow(now, trial);
            for (int i = 0; i < FAR; i++) {
                if ((passHour(trial, drawsGust(trial)) >> roof & 1) != 0) {
                    return i;
                }
            }
            return NONE;
        }

        int downsOf(int[] now, int roof, int n) {
            copyRow(now, trial);
            for (int i = 0; i < n; i++) {
                passHour(trial, drawsGust(trial));
            }
            return trial[DOWN + roof] - now[DOWN + roof];
        }

        int moreDowns(int[] now, int parts) {
            look.partsLeft = parts;
            int downs = allDowns(now);
            look.partsLeft = Look.HALF;
            return downs - allDowns(now);
        }

        private int allDowns(int[] now) {
            copyRow(now, trial);
            int downs = 0;
            for (int i = 0; i < LAW_HOURS; i++) {
                downs += Integer.bitCount(passHour(trial, drawsGust(trial)));
            }
            return downs;
        }

        int oddsPart(int[] now, int roof, int n, int part) {
            int upper = 0;
            int lower = 1;
            for (int i = 0; i < n; i++) {
                lower *= 100;
            }
            for (int gusts = 0; gusts < 1 << n; gusts++) {
                upper += waysUp(now, roof, n, gusts);
            }
            int shared = commonDivisor(upper, lower);
            if (shared == 0) {
                return NONE;
            }
            return (part == 0 ? upper : lower) / shared;
        }

        /** Of 100 ways each HOUR those with just these gusts, as bits; none if the ROOF is DOWN in one. */
        private int waysUp(int[] now, int roof, int n, int gusts) {
            copyRow(now, trial);
            int ways = 1;
            for (int i = 0; i < n && ways > 0; i++) {
                boolean gust = (gusts >> i & 1) != 0;
                ways *= gust ? look.town.gustOfHundred : 100 - look.town.gustOfHundred;
                if ((passHour(trial, gust) >> roof & 1) != 0) {
                    return 0;
                }
            }
            return ways;
        }

        private static int commonDivisor(int a, int b) {
            int big = b;
            int small = a;
            // Halves at least every second time: 64 are enough for ints.
            for (int i = 0; i < 64 && small != 0; i++) {
                int rest = big % small;
                big = small;
                small = rest;
            }
            return big;
        }
    }

    /** What could be done now; each search leaves its two answers in first and second. */
    private static final class Plans {
        private static final int SETS = 1 << KITES;
        // Behind every BOY and load that can be reached.
        private static final int OUT_OF_REACH = 1 << 30;

        private final Look look;
        private final int[] trial = new int[ROW];
        // By sets of KITES that are still to be shared out: their sum, and what is reached with them.
        private final int[] sums = new int[SETS];
        private final int[] reached = new int[SETS];
        private final int[] needs = new int[ROOFS];
        private final int[] pulls = new int[KITES];
        private final int[] shares = new int[KITES];
        int first;
        int second;

        Plans(Look look) {
            this.look = look;
        }

        private void begin(int[] now) {
            copyRow(now, trial);
            look.blow(now, false);
            look.watch(now);
            first = NONE;
            second = NONE;
        }

        void findBest(int[] now, int kite) {
            begin(now);
            trial[HOLDER + kite] = TIED;
            for (int h = 1; h <= HEIGHTS; h++) {
                trial[HEIGHT + kite] = h;
                look.watch(trial);
                if (look.pull[kite] > second) {
                    first = h;
                    second = look.pull[kite];
                }
            }
        }

        void findFewest(int[] now, int roof) {
            begin(now);
            int own = look.town.kitesOf(roof);
            int usable = own & look.flying;
            for (int count = 0; count <= KITES; count++) {
                for (int set = 0; set < SETS; set++) {
                    if ((set & ~usable) == 0 && Integer.bitCount(set) == count && isEnough(now, roof, own, set)) {
                        first = count;
                        second = set;
                        return;
                    }
                }
            }
        }

        private boolean isEnough(int[] now, int roof, int own, int set) {
            for (int k = 0; k < KITES; k++) {
                boolean landed = ((own & ~set) >> k & 1) != 0;
                trial[HEIGHT + k] = landed ? 0 : now[HEIGHT + k];
            }
            look.watch(trial);
            return (look.upRoofs >> roof & 1) != 0;
        }

        void findGuard(int[] now) {
            begin(now);
            int flying = look.flying;
            int up = look.upRoofs;
            for (int k = 0; k < look.town.kites; k++) {
                if ((flying >> k & 1) == 0) {
                    continue;
                }
                trial[HEIGHT + k] = 0;
                look.watch(trial);
                trial[HEIGHT + k] = now[HEIGHT + k];
                int fallen = Integer.bitCount(up & ~look.upRoofs);
                if (fallen > second) {
                    first = k;
                    second = fallen;
                }
            }
        }

        void findCrew(int[] now) {
            begin(now);
            int able = 0;
            for (int b = 0; b < look.town.boys; b++) {
                if (now[LEFT + b] > 0) {
                    able |= 1 << b;
                }
            }
            int count = takeUntied(now);
            for (int boys = 0; boys <= BOYS; boys++) {
                for (int set = 0; set < 1 << BOYS; set++) {
                    if ((set & ~able) == 0 && Integer.bitCount(set) == boys && canHoldAll(set, count)) {
                        first = boys;
                        second = set;
                        return;
                    }
                }
            }
        }

        private int takeUntied(int[] now) {
            int count = 0;
            for (int k = 0; k < look.town.kites; k++) {
                if (look.flies(k) && now[HOLDER + k] != TIED && count < KITES) {
                    shares[count] = look.lift[k];
                    count++;
                }
            }
            return count;
        }

        /**
         * Fills the BOYS of a set one behind the other: of the ways to hold some KITES only the one that
         * has come least far (BOY, then load) has to be known, as all that can follow another can follow it.
         */
        private boolean canHoldAll(int boys, int count) {
            int all = (1 << count) - 1;
            reached[0] = 0;
            for (int set = 1; set <= all && set < SETS; set++) {
                reached[set] = OUT_OF_REACH;
                for (int k = 0; k < count && k < KITES; k++) {
                    if ((set >> k & 1) != 0) {
                        reached[set] = Math.min(reached[set], withOneMore(reached[set & ~(1 << k)], shares[k], boys));
                    }
                }
            }
            return reached[all] != OUT_OF_REACH;
        }

        private int withOneMore(int reach, int lift, int boys) {
            if (reach == OUT_OF_REACH) {
                return reach;
            }
            int load = reach & 0xFFFF;
            for (int b = reach >> 16; b < look.town.boys && b < BOYS; b++) {
                if ((boys >> b & 1) != 0 && load + lift <= look.town.arms[b]) {
                    return b << 16 | load + lift;
                }
                load = 0;
            }
            return OUT_OF_REACH;
        }

        /** Puts the ROOF of each KITE into the shared out row: how many ROOFS are UP then. */
        int findLending(int[] now, int[] lent) {
            begin(now);
            Town town = look.town;
            for (int k = 0; k < KITES; k++) {
                pulls[k] = k < town.kites ? look.pull[k] : 0;
            }
            for (int r = 0; r < town.roofs; r++) {
                needs[r] = town.weight[r];
            }
            int most = mostUp(0);
            for (int k = 0; k < town.kites && k < lent.length; k++) {
                lent[k] = firstRoofFor(k, most);
            }
            return most;
        }

        private int firstRoofFor(int kite, int most) {
            for (int r = 0; r < look.town.roofs; r++) {
                needs[r] -= pulls[kite];
                if (mostUp(kite + 1) == most) {
                    return r;
                }
                needs[r] += pulls[kite];
            }
            return 0;
        }

        /** How many ROOFS can be UP at most, if the KITES from one on are still to be shared out. */
        private int mostUp(int from) {
            int all = sumSets(from);
            for (int set = 0; set <= all; set++) {
                reached[set] = 0;
            }
            for (int r = 0; r < look.town.roofs; r++) {
                // From above, as each set looks only at smaller ones as they were without this ROOF.
                for (int set = all; set >= 0; set--) {
                    reached[set] = mostWith(set, needs[r]);
                }
            }
            return reached[all];
        }

        private int sumSets(int from) {
            int count = within(0, look.town.kites - from, KITES);
            int all = (1 << count) - 1;
            sums[0] = 0;
            for (int k = 0; k < count && from + k < KITES; k++) {
                int bit = 1 << k;
                for (int set = bit; set < 2 * bit; set++) {
                    sums[set] = sums[set ^ bit] + pulls[from + k];
                }
            }
            return all;
        }

        private int mostWith(int set, int need) {
            int most = reached[set] + (need <= 0 ? 1 : 0);
            int part = set;
            for (int i = 0; i < SETS && part != 0; i++) {
                if (sums[part] >= need) {
                    most = Math.max(most, reached[set ^ part] + 1);
                }
                part = part - 1 & set;
            }
            return most;
        }
    }

    /** What was heard of a stranger's kite, and where it can be. */
    private static final class Stranger {
        private static final int MOST = 30;
        private static final int PLACES = 30;
        private static final int LAST_TIME = 100000;

        private final Look look;
        private final int[] kites = new int[MOST];
        private final boolean[] isNear = new boolean[MOST];
        private final int[] toldAt = new int[MOST];
        private final int[] untoldAt = new int[MOST];
        private final int[] foundNear = new int[KITES];
        private int wantNear;
        private int wantFar;
        int count;
        int time;
        int found;
        // The height of all that was found, -2 if they differ, NONE if nothing was.
        int height;

        Stranger(Look look) {
            this.look = look;
        }

        void forget() {
            count = 0;
        }

        int hear(int kite, boolean near) {
            if (count >= MOST) {
                return NONE;
            }
            kites[count] = kite;
            isNear[count] = near;
            toldAt[count] = time;
            untoldAt[count] = NONE;
            count++;
            return count - 1;
        }

        boolean unhear(int number) {
            if (number < 0 || number >= count || untoldAt[number] != NONE) {
                return false;
            }
            untoldAt[number] = time;
            return true;
        }

        int goOn(int by) {
            if (time + by > LAST_TIME) {
                return NONE;
            }
            time += by;
            return time;
        }

        /** Goes through all PLACES and heights; the look is at the row already. */
        void search(int[] row, int k) {
            gather(k);
            found = 0;
            height = NONE;
            for (int kite = 0; kite < KITES; kite++) {
                foundNear[kite] = 0;
            }
            for (int h = 1; h <= HEIGHTS; h++) {
                for (int p = 0; p < PLACES; p++) {
                    int near = nearOf(row, p, h);
                    if ((near & wantNear) == wantNear && (near & wantFar) == 0) {
                        addSpot(near, h);
                    }
                }
            }
        }

        private void gather(int k) {
            wantNear = 0;
            wantFar = 0;
            for (int i = 0; i < count; i++) {
                boolean untold = untoldAt[i] != NONE && untoldAt[i] <= k;
                if (toldAt[i] > k || untold || !look.flies(kites[i])) {
                    continue;
                }
                if (isNear[i]) {
                    wantNear |= 1 << kites[i];
                } else {
                    wantFar |= 1 << kites[i];
                }
            }
        }

        private int nearOf(int[] row, int p, int h) {
            int bits = 0;
            for (int kite = 0; kite < look.town.kites; kite++) {
                if (look.flies(kite) && Look.isNear(row[HEIGHT + kite] - h, look.place[kite] - p)) {
                    bits |= 1 << kite;
                }
            }
            return bits;
        }

        private void addSpot(int near, int h) {
            height = found == 0 || height == h ? h : -2;
            found++;
            for (int kite = 0; kite < KITES; kite++) {
                foundNear[kite] += near >> kite & 1;
            }
        }

        int bestToAsk() {
            int best = NONE;
            for (int kite = 0; kite < look.town.kites && found > 0; kite++) {
                if (look.flies(kite) && (best == NONE || leftAtMost(kite) < leftAtMost(best))) {
                    best = kite;
                }
            }
            return best;
        }

        int leftAtMost(int kite) {
            return Math.max(foundNear[kite], found - foundNear[kite]);
        }
    }

    /** The rows before each ACT that is kept, and behind the last one once something is undone. */
    private static final class Acts {
        private static final int KEPT = 40;

        private final int[][] rows = new int[KEPT + 1][ROW];
        int done;
        int all;

        void forget() {
            done = 0;
            all = 0;
        }

        /** Called ahead of each ACT: what was undone can't be done again then. */
        void keep(int[] now) {
            if (done >= KEPT) {
                dropOldest();
            }
            copyRow(now, rows[done]);
            done++;
            all = done;
        }

        private void dropOldest() {
            int[] oldest = rows[0];
            for (int i = 0; i < KEPT; i++) {
                rows[i] = rows[i + 1];
            }
            rows[KEPT] = oldest;
            done = KEPT - 1;
        }

        boolean takeBack(int[] now) {
            if (done <= 0 || done > KEPT) {
                return false;
            }
            copyRow(now, rows[done]);
            done--;
            copyRow(rows[done], now);
            return true;
        }

        boolean doAgain(int[] now) {
            if (done >= all || done >= KEPT) {
                return false;
            }
            done++;
            copyRow(rows[done], now);
            return true;
        }
    }
}
