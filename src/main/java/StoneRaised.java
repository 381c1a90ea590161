import java.util.Arrays;

/**
 * A town in which each child raises a stone: told as a text, lived through year by year, asked
 * about, undone and kept as an image. DOC.md numbers its promises; see README.md.
 */
public final class StoneRaised {
    /** None; refused. */
    public static final int NONE = -1;

    private static final int TAPE_BYTES = 1600;
    private static final int FED_BYTES = 20;

    private static final int MAX_STATEMENTS = 80;
    private static final int MAX_HOMES = 6;
    private static final int MAX_CHILDREN = 8;
    private static final int MAX_WALLS = 4;
    private static final int MAX_FEUDS = 10;
    private static final int MAX_SIDE = 4;
    private static final int MAX_OPEN = 7;
    private static final int NAME_LETTERS = 6;
    private static final int NUMBER_DIGITS = 4;
    private static final int LETTERS = 27;

    /** The kinds of NAMES, as letter() asks for them. */
    private static final int HOMES = 0;
    private static final int CHILDREN = 1;
    private static final int WALLS = 2;

    private static final int NO_FAULT = 0;
    private static final int NO_TOWN = 1;
    private static final int NAME_TAKEN = 2;
    private static final int NAME_WRONG = 3;
    private static final int NUMBER_WRONG = 4;
    private static final int TOO_DEEP = 5;
    private static final int TOO_MANY = 6;

    private static final int LAST_YEAR = 999;
    private static final int LAST_BORN = 99;
    private static final int MOST_STRONG = 999;
    private static final int MOST_GAIN = 99;
    private static final int MAX_PASSING = 100;
    private static final int MAX_AHEAD = 60;
    private static final int MAX_RECONCILE = 40;
    private static final int MAX_ORDER = 6;
    private static final int MAX_ACTS = 20;
    private static final int MAX_KEPT = 60;

    private static final int NOT_RAISED = 0;
    private static final int RAISED = 1;
    private static final int ON_SHELF = 2;
    private static final int BUILT_IN = 3;

    /** The kinds of calls that can be refused, as status() counts them. */
    private static final int OF_TAPE = 0;
    private static final int OF_TOWN = 1;
    private static final int OF_YEARS = 2;
    private static final int OF_ACTS = 3;
    private static final int OF_UNDO = 4;
    private static final int OF_OTHERS = 5;

    private static final Word[] WORDS = Word.values();

    private final Tape tape;
    private final Parser parser;
    private final World now;
    private final Plans plans;
    private final Acts acts;
    private final Seams told;
    private final Image shown;
    private final int[] refused;
    private Town current;
    private Town draft;
    private int faultKind;
    private int faultPlace;
    private int seedNow;

    public StoneRaised() {
        tape = new Tape();
        current = new Town();
        draft = new Town();
        parser = new Parser(tape, draft);
        now = new World(current);
        plans = new Plans(current);
        acts = new Acts();
        told = new Seams();
        shown = new Image();
        refused = new int[OF_OTHERS + 1];
        faultKind = NO_FAULT;
        faultPlace = NONE;
        seedNow = 1;
    }

    // ---- the tape and the town

    public int feed(int a, int b, int c, int d, int e) {
        if (tape.size + FED_BYTES > TAPE_BYTES) {
            return refuse(OF_TAPE);
        }
        tape.add(a);
        tape.add(b);
        tape.add(c);
        tape.add(d);
        tape.add(e);
        return tape.size;
    }

    public boolean end(int n) {
        if (n < 0 || n > tape.size) {
            refuse(OF_TAPE);
            return false;
        }
        tape.size = n;
        return true;
    }

    public int town() {
        int statements = 0;
        parser.begin(draft);
        for (int n = 0; n <= MAX_STATEMENTS && parser.hasMore(); n++) {
            parser.statement(n);
            statements = n + 1;
        }
        tape.size = 0;
        faultKind = parser.reader.fault;
        faultPlace = parser.reader.place;
        if (faultKind != NO_FAULT) {
            return refuse(OF_TOWN);
        }
        settleIn();
        return statements;
    }

    /** The draft becomes the town; the old town's rows are the next draft's. */
    private void settleIn() {
        Town old = current;
        current = draft;
        draft = old;
        now.begin(current);
        acts.forget();
        told.forget(current);
    }

    public int fault(int what) {
        switch (what) {
            case 0: return faultKind;
            case 1: return faultPlace;
            default: return NONE;
        }
    }

    // ---- what there is

    public int has(int what) {
        switch (what) {
            case 0: return current.homeCount();
            case 1: return current.childCount();
            case 2: return current.wallCount();
            case 3: return current.feuds;
            case 4: return current.feuds - Integer.bitCount(now.ended);
            case 5: return now.year;
            case 6: return Integer.bitCount(now.bitsAt(ON_SHELF));
            case 7: return Integer.bitCount(now.bitsAt(BUILT_IN));
            case 8: return now.fullWalls();
            case 9: return now.keptCount;
            case 10: return acts.count;
            case 11: return seedNow;
            default: return NONE;
        }
    }

    public int letter(int kind, int which, int k) {
        if (kind < HOMES || kind > WALLS || k < 0 || k >= NAME_LETTERS) {
            return NONE;
        }
        if (which < 0 || which >= current.named[kind]) {
            return NONE;
        }
        int rest = current.names[kind][which];
        for (int n = k + 1; n < NAME_LETTERS; n++) {
            rest /= LETTERS;
        }
        return rest % LETTERS;
    }

    public int home(int home, int what) {
        if (home < 0 || home >= current.homeCount()) {
            return NONE;
        }
        switch (what) {
            case 0: return current.talk[home];
            case 1: return current.warm[home];
            case 2: return now.livingAt(home);
            default: return NONE;
        }
    }

    public int child(int child, int what) {
        if (!isChild(child)) {
            return NONE;
        }
        switch (what) {
            case 0: return now.homeOf[child];
            case 1: return current.born[child];
            case 2: return current.twin[child];
            case 3: return current.foes(child, now.ended);
            default: return NONE;
        }
    }

    public int stone(int child, int what) {
        if (!isChild(child)) {
            return NONE;
        }
        switch (what) {
            case 0: return now.strong[child];
            case 1: return now.where(child);
            default: return isBuilt(child) ? now.lying(child, what) : NONE;
        }
    }

    public int wall(int wall, int what) {
        if (!isWall(wall)) {
            return NONE;
        }
        int column = what - 10;
        if (column >= 0 && column < current.wide[wall]) {
            return now.height[wall * MAX_SIDE + column];
        }
        switch (what) {
            case 0: return current.wide[wall];
            case 1: return current.high[wall];
            case 2: return now.stonesIn(wall);
            default: return NONE;
        }
    }

    public int at(int wall, int column, int course) {
        if (!isWall(wall) || column < 0 || column >= current.wide[wall]) {
            return NONE;
        }
        if (course < 0 || course >= current.high[wall]) {
            return NONE;
        }
        return now.lies[World.spot(wall, column, course)];
    }

    // ---- ahead

    public int later(int n, int what) {
        if (n < 0 || n > MAX_AHEAD || now.year + n > LAST_YEAR || what < 0 || what > 3) {
            return NONE;
        }
        plans.goAhead(now, n, 0);
        switch (what) {
            case 0: return plans.ahead.bitsAt(BUILT_IN);
            case 1: return plans.ahead.bitsAt(ON_SHELF);
            case 2: return plans.ahead.fell;
            default: return plans.ahead.strongTogether();
        }
    }

    public int built(int child) {
        return isChild(child) ? plans.firstBuilt(now, child) : NONE;
    }

    public int down(int child) {
        return isBuilt(child) ? plans.comingDown(now, child) : NONE;
    }

    public int props(int wall) {
        return isWall(wall) ? plans.fewestProps(now, wall) : NONE;
    }

    public int strongest(int child, int what) {
        if (!isChild(child) || now.isDone(child)) {
            return NONE;
        }
        int home = plans.strongestHome(now, child);
        switch (what) {
            case 0: return home;
            case 1: return now.strongWhenDone(child, home);
            default: return NONE;
        }
    }

    public int order(int k) {
        int shelf = now.bitsAt(ON_SHELF);
        int places = Integer.bitCount(shelf);
        if (places > MAX_ORDER || k < NONE || k >= places) {
            return NONE;
        }
        plans.findOrder(now, shelf);
        return k == NONE ? plans.most : plans.best[k];
    }

    public int reconcile(int n, int what) {
        if (n < 1 || n > MAX_RECONCILE || now.year + n > LAST_YEAR) {
            return NONE;
        }
        int without = plans.goAhead(now, n, 0);
        int most = without;
        int chosen = NONE;
        for (int feud = 0; feud < current.feuds; feud++) {
            boolean open = (now.ended & 1 << feud) == 0;
            int count = open ? plans.goAhead(now, n, 1 << feud) : without;
            if (count > most) {
                most = count;
                chosen = feud;
            }
        }
        if (chosen == NONE || what < 0 || what > 1) {
            return NONE;
        }
        return what == 0 ? chosen : most - without;
    }

    // ---- seams, masons

    public int seams(int born) {
        boolean taken = told.take(current, tape, born);
        tape.size = 0;
        return taken ? Integer.bitCount(told.homes) : refuse(OF_OTHERS);
    }

    public int homes(int what) {
        switch (what) {
            case 0: return told.homes;
            case 1: return told.telling(current);
            default: return NONE;
        }
    }

    public int pulling(int wall) {
        if (!isWall(wall)) {
            return NONE;
        }
        return plans.firstWins(now, wall) ? 1 : 0;
    }

    // ---- acts

    public int years(int n) {
        if (!canPass(n)) {
            return refuse(OF_YEARS);
        }
        acts.save(now);
        now.built = 0;
        for (int k = 0; k < n; k++) {
            now.passYear(false);
        }
        return now.built;
    }

    public int chance(int n) {
        if (!canPass(n)) {
            return refuse(OF_YEARS);
        }
        acts.save(now);
        int frosts = 0;
        for (int k = 0; k < n; k++) {
            boolean frost = drawHundred() < current.frost;
            now.passYear(frost);
            frosts += frost ? 1 : 0;
        }
        return frosts;
    }

    public boolean go(int child, int home) {
        boolean can = isChild(child) && home >= 0 && home < current.homeCount();
        if (!can || now.homeOf[child] == home) {
            refuse(OF_ACTS);
            return false;
        }
        acts.save(now);
        now.homeOf[child] = home;
        return true;
    }

    public int pull(int child) {
        if (!isBuilt(child)) {
            return refuse(OF_ACTS);
        }
        acts.save(now);
        now.fell = 0;
        now.pullOut(child);
        return now.fell;
    }

    public boolean peace(int feud) {
        if (feud < 0 || feud >= current.feuds || (now.ended & 1 << feud) != 0) {
            refuse(OF_ACTS);
            return false;
        }
        acts.save(now);
        now.ended |= 1 << feud;
        return true;
    }

    public boolean undo() {
        if (!acts.takeBack(now)) {
            refuse(OF_UNDO);
            return false;
        }
        return true;
    }

    public boolean seed(int seed) {
        if (seed < 0) {
            refuse(OF_OTHERS);
            return false;
        }
        seedNow = seed;
        return true;
    }

    public int kept(int k, int what) {
        if (k < 0 || k >= now.keptCount) {
            return NONE;
        }
        int entry = now.kept[k];
        switch (what) {
            case 0: return entry >> 6;
            case 1: return entry >> 3 & 7;
            case 2: return entry >> 1 & 3;
            case 3: return entry & 1;
            default: return NONE;
        }
    }

    // ---- images, refusals

    public int image() {
        shown.write(now);
        return shown.size;
    }

    public int octet(int k) {
        return k >= 0 && k < shown.size ? shown.bytes[k] : NONE;
    }

    public boolean on() {
        boolean read = Image.read(tape, current, plans.ahead);
        tape.size = 0;
        if (!read) {
            refuse(OF_OTHERS);
            return false;
        }
        now.copy(plans.ahead);
        acts.forget();
        return true;
    }

    public int status(int what) {
        return what >= OF_TAPE && what <= OF_OTHERS ? refused[what] : NONE;
    }

    // ---- helpers

    private int refuse(int kind) {
        refused[kind]++;
        return NONE;
    }

    private boolean isChild(int child) {
        return child >= 0 && child < current.childCount();
    }

    private boolean isBuilt(int child) {
        return isChild(child) && now.place[child] != NONE;
    }

    private boolean isWall(int wall) {
        return wall >= 0 && wall < current.wallCount();
    }

    private boolean canPass(int n) {
        return n >= 1 && n <= MAX_PASSING && now.year + n <= LAST_YEAR;
    }

    private int drawHundred() {
        seedNow = (int) (1103515245L * seedNow + 12345L & 0x7fffffffL);
        return seedNow / 64 % 100;
    }

    /** The OWN WORDS; fact is the place of the facts that a formula reads by it. */
    private enum Word {
        HOME("home", NONE), TALK("talk", 0), WARM("warm", 1), CHILD("child", NONE),
        OF("of", NONE), BORN("born", NONE), TWINS("twins", NONE), FEUD("feud", NONE),
        WALL("wall", NONE), WIDE("wide", NONE), HIGH("high", NONE), GAINS("gains", NONE),
        MAY("may", NONE), RAISED("raised", NONE), TO("to", NONE), WEIGHS("weighs", NONE),
        FROST("frost", NONE), BITES("bites", NONE), AGE("age", 2), STRONG("strong", 3),
        YEAR("year", 4), COURSE("course", 5), LEFT("left", 6), UNDER("under", 7),
        IF("if", NONE), OR("or", NONE), AND("and", NONE), NOT("not", NONE), ALL("all", NONE),
        MIN("min", NONE), MAX("max", NONE),
        /** No word of the language: a NAME, or no word at all. */
        OTHER("", NONE);

        final int code;
        final int fact;

        Word(String text, int fact) {
            int sum = 0;
            for (int k = 0; k < NAME_LETTERS; k++) {
                sum = sum * LETTERS + (k < text.length() ? text.charAt(k) - 'a' + 1 : 0);
            }
            this.code = sum;
            this.fact = fact;
        }
    }

    /** The bytes that were fed and not used up so far. */
    private static final class Tape {
        final byte[] bytes = new byte[TAPE_BYTES];
        int size;

        void add(int number) {
            for (int shift = 24; shift >= 0 && size < TAPE_BYTES; shift -= 8) {
                bytes[size] = (byte) (number >> shift);
                size++;
            }
        }

        int byteAt(int k) {
            return k >= 0 && k < size ? bytes[k] & 255 : NONE;
        }

        /** Two bytes, the higher first. */
        int pairAt(int k) {
            return k >= 0 && k + 1 < size ? (bytes[k] & 255) * 256 + (bytes[k + 1] & 255) : NONE;
        }
    }

    /** Takes the tape apart into words, numbers and signs, and keeps the first fault. */
    private static final class Reader {
        static final int END = 0;
        static final int WORD = 1;
        static final int NUMBER = 2;
        static final int SIGN = 3;

        final Tape tape;
        int kind;
        /** A word's letters as one number, a number, or a sign's byte. */
        int value;
        Word word;
        int from;
        int next;
        int fault;
        int place;

        Reader(Tape tape) {
            this.tape = tape;
            this.word = Word.OTHER;
        }

        void open() {
            next = 0;
            fault = NO_FAULT;
            place = NONE;
            kind = END;
            word = Word.OTHER;
        }

        /** Behind a fault the text counts as ended, so that every loop of the parser ends. */
        void fail(int what, int where) {
            if (fault == NO_FAULT) {
                fault = what;
                place = where;
            }
            kind = END;
            word = Word.OTHER;
        }

        void failHere(int what) {
            fail(what, from);
        }

        boolean isGood() {
            return fault == NO_FAULT;
        }

        boolean isSign(int sign) {
            return kind == SIGN && value == sign;
        }

        boolean isName() {
            return kind == WORD && word == Word.OTHER;
        }

        /** Whether more than blanks is ahead, which are passed over. */
        boolean goesOn() {
            while (next < tape.size && isBlank(tape.byteAt(next))) {
                next++;
            }
            return next < tape.size;
        }

        void advance() {
            if (fault != NO_FAULT) {
                return;
            }
            boolean more = goesOn();
            from = next;
            value = 0;
            word = Word.OTHER;
            if (!more) {
                kind = END;
            } else if (joins(next - 1) && joins(next)) {
                // A blank that lacks is a fault ahead of any 7th letter or 5th digit.
                failHere(NO_TOWN);
            } else if (isLetter(tape.byteAt(next))) {
                readWord();
            } else if (isDigit(tape.byteAt(next))) {
                readNumber();
            } else {
                kind = SIGN;
                value = tape.byteAt(next);
                next++;
            }
        }

        private void readWord() {
            kind = WORD;
            for (; next < tape.size && isLetter(tape.byteAt(next)); next++) {
                if (next - from == NAME_LETTERS) {
                    fail(NO_TOWN, next);
                    return;
                }
                value = value * LETTERS + tape.byteAt(next) - 'a' + 1;
            }
            for (int k = next - from; k < NAME_LETTERS; k++) {
                value *= LETTERS;
            }
            for (int k = 0; k < WORDS.length; k++) {
                if (WORDS[k].code == value) {
                    word = WORDS[k];
                }
            }
        }

        private void readNumber() {
            kind = NUMBER;
            for (; next < tape.size && isDigit(tape.byteAt(next)); next++) {
                if (next - from == NUMBER_DIGITS) {
                    fail(NO_TOWN, next);
                    return;
                }
                value = value * 10 + tape.byteAt(next) - '0';
            }
        }

        /** Whether a byte belongs to a word or a number, which no other one may touch. */
        private boolean joins(int k) {
            return isLetter(tape.byteAt(k)) || isDigit(tape.byteAt(k));
        }

        private static boolean isBlank(int sign) {
            return sign == 10 || sign == 32;
        }

        private static boolean isLetter(int sign) {
            return sign >= 'a' && sign <= 'z';
        }

        private static boolean isDigit(int sign) {
            return sign >= '0' && sign <= '9';
        }
    }

    /** A SUM or a TEST, each part behind those it is made of, so that a row of values works it. */
    private static final class Formula {
        static final int ADD = 1;
        static final int LESS = 2;
        static final int TIMES = 3;
        static final int OVER = 4;
        static final int REST = 5;
        static final int MIN = 6;
        static final int MAX = 7;
        static final int BELOW = 8;
        static final int ABOVE = 9;
        static final int SAME = 10;
        static final int AND = 11;
        static final int OR = 12;
        static final int NOT = 13;
        static final int IF = 14;
        /** From here on a fact, by its place. */
        static final int FACT = 20;
        /** From here on a number itself. */
        static final int NUMBER = 40;

        static final int LIMIT = 1000000;
        /** Eight levels, each with less than ten values that wait. */
        static final int DEEPEST = 96;

        final int[] steps = new int[TAPE_BYTES];
        final int[] values = new int[DEEPEST];
        int size;

        void add(int step) {
            if (size < steps.length) {
                steps[size] = step;
                size++;
            }
        }

        int value(int[] facts) {
            int top = 0;
            for (int k = 0; k < size; k++) {
                int step = steps[k];
                int first = top - partsOf(step);
                if (first < 0 || first >= DEEPEST) {
                    return 0;
                }
                if (step >= NUMBER) {
                    values[first] = step - NUMBER;
                } else if (step >= FACT) {
                    values[first] = step - FACT < facts.length ? facts[step - FACT] : 0;
                } else if (step == IF) {
                    values[first] = values[first] != 0 ? values[first + 1] : values[first + 2];
                } else if (step == NOT) {
                    values[first] = 1 - values[first];
                } else {
                    long result = pair(step, values[first], values[first + 1]);
                    values[first] = (int) Math.max(-LIMIT, Math.min(LIMIT, result));
                }
                top = first + 1;
            }
            return top > 0 ? values[0] : 0;
        }

        /** How many of the values that wait a step takes. */
        private static int partsOf(int step) {
            if (step >= FACT) {
                return 0;
            }
            return step == NOT ? 1 : step == IF ? 3 : 2;
        }

        private static long pair(int step, long a, long b) {
            switch (step) {
                case ADD: return a + b;
                case LESS: return a - b;
                case TIMES: return a * b;
                case OVER: return b == 0 ? 0 : Math.floorDiv(a, b);
                case REST: return b == 0 ? 0 : Math.floorMod(a, b);
                case MIN: return Math.min(a, b);
                case MAX: return Math.max(a, b);
                case BELOW: return a < b ? 1 : 0;
                case ABOVE: return a > b ? 1 : 0;
                case SAME: return a == b ? 1 : 0;
                case AND: return a & b;
                default: return a | b;
            }
        }
    }

    /** What a town's text tells; the years do not change it. */
    private static final class Town {
        final int[] named = new int[WALLS + 1];
        final int[][] names = new int[WALLS + 1][MAX_CHILDREN];
        final int[] talk = new int[MAX_HOMES];
        final int[] warm = new int[MAX_HOMES];
        final int[] firstHome = new int[MAX_CHILDREN];
        final int[] born = new int[MAX_CHILDREN];
        final int[] twin = new int[MAX_CHILDREN];
        final int[] wide = new int[MAX_WALLS];
        final int[] high = new int[MAX_WALLS];
        /** Each FEUD as the bits of its two CHILDREN. */
        final int[] pairs = new int[MAX_FEUDS];
        final Formula gains = new Formula();
        final Formula may = new Formula();
        final int[] facts = new int[8];
        int feuds;
        int raisedFrom;
        int raisedTo;
        int weighs;
        int frost;
        int bites;

        Town() {
            clear();
        }

        void clear() {
            Arrays.fill(named, 0);
            Arrays.fill(twin, NONE);
            gains.size = 0;
            may.size = 0;
            feuds = 0;
            raisedFrom = 7;
            raisedTo = 21;
            weighs = 10;
            frost = 0;
            bites = 5;
        }

        int homeCount() {
            return named[HOMES];
        }

        int childCount() {
            return named[CHILDREN];
        }

        int wallCount() {
            return named[WALLS];
        }

        /** How many YEARS a stone is RAISED at most. */
        int span() {
            return raisedTo - raisedFrom;
        }

        void addName(int kind, int name) {
            if (named[kind] < MAX_CHILDREN) {
                names[kind][named[kind]] = name;
                named[kind]++;
            }
        }

        int find(int kind, int name) {
            for (int k = 0; k < named[kind]; k++) {
                if (names[kind][k] == name) {
                    return k;
                }
            }
            return NONE;
        }

        boolean knows(int name) {
            return find(HOMES, name) != NONE || find(CHILDREN, name) != NONE
                || find(WALLS, name) != NONE;
        }

        int twins() {
            int bits = 0;
            for (int child = 0; child < childCount(); child++) {
                bits |= twin[child] != NONE ? 1 << child : 0;
            }
            return bits;
        }

        /** With whom a CHILD has a FEUD, but for the ended ones. */
        int foes(int child, int ended) {
            int bits = 0;
            for (int feud = 0; feud < feuds; feud++) {
                boolean open = (ended & 1 << feud) == 0;
                if (open && (pairs[feud] & 1 << child) != 0) {
                    bits |= pairs[feud] & ~(1 << child);
                }
            }
            return bits;
        }

        void setFacts(int home, int age, int strong, int year) {
            facts[Word.TALK.fact] = talk[home];
            facts[Word.WARM.fact] = warm[home];
            facts[Word.AGE.fact] = age;
            facts[Word.STRONG.fact] = strong;
            facts[Word.YEAR.fact] = year;
        }

        /** How strong a stone is behind a YEAR in which it is RAISED. */
        int grown(int home, int age, int strong, int year) {
            int gain = talk[home];
            if (gains.size > 0) {
                setFacts(home, age, strong, year);
                gain = gains.value(facts);
            }
            gain = Math.max(0, Math.min(MOST_GAIN, gain));
            return Math.min(MOST_STRONG, strong + gain);
        }
    }

    /** Reads STATEMENTS into a draft of a town. */
    private static final class Parser {
        final Reader reader;
        private Town draft;
        private Formula formula;
        private boolean inMay;
        private int open;

        Parser(Tape tape, Town draft) {
            this.reader = new Reader(tape);
            this.draft = draft;
            this.formula = draft.gains;
        }

        void begin(Town into) {
            draft = into;
            draft.clear();
            reader.open();
        }

        boolean hasMore() {
            return reader.isGood() && reader.goesOn();
        }

        /**
         * Reads one STATEMENT, ahead of which there were as many as told. The 81st one is a fault
         * at its first byte, ahead of all that may be wrong with its first word.
         */
        void statement(int ahead) {
            if (ahead >= MAX_STATEMENTS) {
                reader.fail(TOO_MANY, reader.next);
                return;
            }
            reader.advance();
            switch (reader.word) {
                case HOME: homeLine(); break;
                case CHILD: childLine(); break;
                case TWINS: twinsLine(); break;
                case FEUD: feudLine(); break;
                case WALL: wallLine(); break;
                case GAINS: formulaLine(draft.gains, false); break;
                case MAY: formulaLine(draft.may, true); break;
                case RAISED: raisedLine(); break;
                case WEIGHS: draft.weighs = setting(99); break;
                case FROST: draft.frost = setting(100); break;
                case BITES: draft.bites = setting(99); break;
                default: reader.failHere(NO_TOWN);
            }
            if (!reader.isSign(';')) {
                reader.failHere(NO_TOWN);
            }
        }

        private void homeLine() {
            limit(draft.homeCount(), MAX_HOMES);
            reader.advance();
            int name = newName();
            own(Word.TALK);
            int talk = number(0, 9);
            own(Word.WARM);
            int warm = number(0, 9);
            int home = draft.homeCount();
            if (reader.isGood() && home < MAX_HOMES) {
                draft.talk[home] = talk;
                draft.warm[home] = warm;
                draft.addName(HOMES, name);
            }
        }

        private void childLine() {
            limit(draft.childCount(), MAX_CHILDREN);
            reader.advance();
            int name = newName();
            own(Word.OF);
            int home = known(HOMES, 0);
            own(Word.BORN);
            int born = number(0, LAST_BORN);
            int child = draft.childCount();
            if (reader.isGood() && child < MAX_CHILDREN) {
                draft.firstHome[child] = home;
                draft.born[child] = born;
                draft.addName(CHILDREN, name);
            }
        }

        private void twinsLine() {
            reader.advance();
            int twins = draft.twins();
            int one = known(CHILDREN, twins);
            int other = known(CHILDREN, twins | 1 << one);
            if (one != NONE && other != NONE) {
                draft.twin[one] = other;
                draft.twin[other] = one;
            }
        }

        private void feudLine() {
            limit(draft.feuds, MAX_FEUDS);
            reader.advance();
            int one = known(CHILDREN, 0);
            int other = known(CHILDREN, draft.foes(one, 0) | 1 << one);
            if (one != NONE && other != NONE && draft.feuds < MAX_FEUDS) {
                draft.pairs[draft.feuds] = 1 << one | 1 << other;
                draft.feuds++;
            }
        }

        private void wallLine() {
            limit(draft.wallCount(), MAX_WALLS);
            reader.advance();
            int name = newName();
            own(Word.WIDE);
            int wide = number(1, MAX_SIDE);
            own(Word.HIGH);
            int high = number(1, MAX_SIDE);
            int wall = draft.wallCount();
            if (reader.isGood() && wall < MAX_WALLS) {
                draft.wide[wall] = wide;
                draft.high[wall] = high;
                draft.addName(WALLS, name);
            }
        }

        private void raisedLine() {
            reader.advance();
            draft.raisedFrom = number(1, 30);
            own(Word.TO);
            draft.raisedTo = number(draft.raisedFrom + 1, 30);
        }

        private int setting(int most) {
            reader.advance();
            return number(0, most);
        }

        private void formulaLine(Formula into, boolean may) {
            limit(into.size, 1);
            formula = into;
            inMay = may;
            open = 0;
            reader.advance();
            if (may) {
                testPart();
            } else {
                sumPart();
            }
        }

        private void limit(int count, int most) {
            if (count >= most) {
                reader.failHere(TOO_MANY);
            }
        }

        private void sign(int sign) {
            if (!reader.isSign(sign)) {
                reader.failHere(NO_TOWN);
            }
            reader.advance();
        }

        private void own(Word word) {
            if (reader.word != word) {
                reader.failHere(NO_TOWN);
            }
            reader.advance();
        }

        private int number(int least, int most) {
            int number = reader.value;
            if (reader.kind != Reader.NUMBER) {
                reader.failHere(NO_TOWN);
            } else if (number < least || number > most) {
                reader.failHere(NUMBER_WRONG);
            }
            reader.advance();
            return reader.isGood() ? number : least;
        }

        private int newName() {
            int name = reader.value;
            if (!reader.isName()) {
                reader.failHere(NO_TOWN);
            } else if (draft.knows(name)) {
                reader.failHere(NAME_TAKEN);
            }
            reader.advance();
            return name;
        }

        /** Which one of a kind is named, but for those that the bits bar. */
        private int known(int kind, int barred) {
            int which = NONE;
            if (!reader.isName()) {
                reader.failHere(NO_TOWN);
            } else {
                which = draft.find(kind, reader.value);
            }
            if (which == NONE || (barred & 1 << which) != 0) {
                reader.failHere(NAME_WRONG);
                return NONE;
            }
            reader.advance();
            return which;
        }

        // The parts of a formula call one another; no more than MAX_OPEN levels are let open.

        private void testPart() {
            bothPart();
            for (int n = 0; n < TAPE_BYTES && reader.word == Word.OR; n++) {
                reader.advance();
                bothPart();
                formula.add(Formula.OR);
            }
        }

        private void bothPart() {
            factPart();
            for (int n = 0; n < TAPE_BYTES && reader.word == Word.AND; n++) {
                reader.advance();
                factPart();
                formula.add(Formula.AND);
            }
        }

        private void factPart() {
            if (reader.word == Word.NOT) {
                goDeeper();
                factPart();
                open--;
                formula.add(Formula.NOT);
            } else if (reader.isSign('[')) {
                goDeeper();
                testPart();
                open--;
                sign(']');
            } else if (reader.word == Word.ALL) {
                reader.advance();
                formula.add(Formula.NUMBER + 1);
            } else {
                comparePart();
            }
        }

        private void comparePart() {
            sumPart();
            int step = reader.isSign('<') ? Formula.BELOW : reader.isSign('>') ? Formula.ABOVE
                : reader.isSign('=') ? Formula.SAME : NONE;
            if (step == NONE) {
                reader.failHere(NO_TOWN);
                return;
            }
            reader.advance();
            sumPart();
            formula.add(step);
        }

        private void sumPart() {
            productPart();
            for (int n = 0; n < TAPE_BYTES && (reader.isSign('+') || reader.isSign('-')); n++) {
                int step = reader.isSign('+') ? Formula.ADD : Formula.LESS;
                reader.advance();
                productPart();
                formula.add(step);
            }
        }

        private void productPart() {
            singlePart();
            for (int n = 0; n < TAPE_BYTES; n++) {
                int step = reader.isSign('*') ? Formula.TIMES : reader.isSign('/') ? Formula.OVER
                    : reader.isSign('%') ? Formula.REST : NONE;
                if (step == NONE) {
                    return;
                }
                reader.advance();
                singlePart();
                formula.add(step);
            }
        }

        private void singlePart() {
            if (reader.kind == Reader.NUMBER) {
                formula.add(Formula.NUMBER + reader.value);
                reader.advance();
            } else if (reader.isSign('(')) {
                goDeeper();
                sumPart();
                open--;
                sign(')');
            } else if (reader.word == Word.MIN) {
                chosenPart(Formula.MIN);
            } else if (reader.word == Word.MAX) {
                chosenPart(Formula.MAX);
            } else if (reader.word == Word.IF) {
                chosenPart(Formula.IF);
            } else {
                factWord(reader.word.fact);
            }
        }

        /** min, max and if, which are told alike but for the TEST that comes first in an if. */
        private void chosenPart(int step) {
            reader.advance();
            if (!reader.isSign('(')) {
                reader.failHere(NO_TOWN);
                return;
            }
            goDeeper();
            if (step == Formula.IF) {
                testPart();
                sign(',');
            }
            sumPart();
            sign(',');
            sumPart();
            open--;
            sign(')');
            formula.add(step);
        }

        private void factWord(int fact) {
            if (fact == NONE || !inMay && fact >= Word.COURSE.fact) {
                reader.failHere(NO_TOWN);
                return;
            }
            formula.add(Formula.FACT + fact);
            reader.advance();
        }

        private void goDeeper() {
            if (open >= MAX_OPEN) {
                reader.failHere(TOO_DEEP);
            }
            open++;
            reader.advance();
        }
    }

    /** A town at a time: what the years and the acts change. */
    private static final class World {
        static final int WALL_SPOTS = MAX_SIDE * MAX_SIDE;

        Town town;
        int year;
        /** The FEUDS that were ended, as bits. */
        int ended;
        final int[] homeOf = new int[MAX_CHILDREN];
        final int[] strong = new int[MAX_CHILDREN];
        /** The spot of each stone that is BUILT IN, else NONE. */
        final int[] place = new int[MAX_CHILDREN];
        /** Whose stone lies at each spot. */
        final int[] lies = new int[MAX_WALLS * WALL_SPOTS];
        final int[] height = new int[MAX_WALLS * MAX_SIDE];
        /** What is told as KEPT, each in one number, the oldest first. */
        final int[] kept = new int[MAX_KEPT];
        int keptCount;
        /** Whose stones came down in this YEAR, as bits: they wait for the next one. */
        int waiting;
        int fell;
        int built;

        World(Town town) {
            begin(town);
        }

        void begin(Town of) {
            town = of;
            year = 0;
            ended = 0;
            System.arraycopy(of.firstHome, 0, homeOf, 0, MAX_CHILDREN);
            Arrays.fill(strong, 0);
            clearWalls();
            clearCounts();
        }

        void clearWalls() {
            Arrays.fill(place, NONE);
            Arrays.fill(lies, NONE);
            Arrays.fill(height, 0);
        }

        private void clearCounts() {
            keptCount = 0;
            waiting = 0;
            fell = 0;
            built = 0;
        }

        /** Takes another world over, but for what it keeps. */
        void copy(World other) {
            town = other.town;
            year = other.year;
            ended = other.ended;
            System.arraycopy(other.homeOf, 0, homeOf, 0, MAX_CHILDREN);
            System.arraycopy(other.strong, 0, strong, 0, MAX_CHILDREN);
            System.arraycopy(other.place, 0, place, 0, MAX_CHILDREN);
            System.arraycopy(other.lies, 0, lies, 0, lies.length);
            System.arraycopy(other.height, 0, height, 0, height.length);
            clearCounts();
        }

        static int spot(int wall, int column, int course) {
            return (wall * MAX_SIDE + column) * MAX_SIDE + course;
        }

        static int wallAt(int spot) {
            return spot / WALL_SPOTS;
        }

        int age(int child) {
            return year - town.born[child];
        }

        boolean isDone(int child) {
            return age(child) >= town.raisedTo;
        }

        int where(int child) {
            if (place[child] != NONE) {
                return BUILT_IN;
            }
            if (isDone(child)) {
                return ON_SHELF;
            }
            return age(child) >= town.raisedFrom ? RAISED : NOT_RAISED;
        }

        int bitsAt(int where) {
            int bits = 0;
            for (int child = 0; child < town.childCount(); child++) {
                bits |= where(child) == where ? 1 << child : 0;
            }
            return bits;
        }

        int livingAt(int home) {
            int bits = 0;
            for (int child = 0; child < town.childCount(); child++) {
                bits |= homeOf[child] == home ? 1 << child : 0;
            }
            return bits;
        }

        int strongTogether() {
            int sum = 0;
            for (int child = 0; child < town.childCount(); child++) {
                sum += strong[child];
            }
            return sum;
        }

        int stonesIn(int wall) {
            int sum = 0;
            for (int column = 0; column < town.wide[wall]; column++) {
                sum += height[wall * MAX_SIDE + column];
            }
            return sum;
        }

        int fullWalls() {
            int full = 0;
            for (int wall = 0; wall < town.wallCount(); wall++) {
                full += stonesIn(wall) == town.wide[wall] * town.high[wall] ? 1 : 0;
            }
            return full;
        }

        /** What stone() tells of a stone that is BUILT IN. */
        int lying(int child, int what) {
            int spot = place[child];
            switch (what) {
                case 2: return wallAt(spot);
                case 3: return spot / MAX_SIDE % MAX_SIDE;
                case 4: return spot % MAX_SIDE;
                case 5: return loadAt(spot);
                case 6: return bears(child, 0);
                default: return NONE;
            }
        }

        int loadAt(int spot) {
            return (height[spot / MAX_SIDE] - 1 - spot % MAX_SIDE) * town.weighs;
        }

        /** What a stone BEARS, were it weaker by a loss. */
        int bears(int child, int loss) {
            int left = Math.max(0, strong[child] - loss);
            int twin = town.twin[child];
            if (twin == NONE) {
                return left;
            }
            boolean near = place[twin] != NONE && wallAt(place[twin]) == wallAt(place[child]);
            return near ? left : left / 2;
        }

        /** The first spot of a WALL, by columns, then courses, at which a stone does not HOLD. */
        int weakSpot(int wall) {
            int first = wall * WALL_SPOTS;
            for (int spot = first; spot < first + WALL_SPOTS; spot++) {
                int child = lies[spot];
                if (child != NONE && bears(child, 0) < loadAt(spot)) {
                    return spot;
                }
            }
            return NONE;
        }

        void put(int child, int spot) {
            place[child] = spot;
            lies[spot] = child;
            height[spot / MAX_SIDE]++;
        }

        void lift(int child) {
            int spot = place[child];
            if (spot != NONE) {
                place[child] = NONE;
                lies[spot] = NONE;
                height[spot / MAX_SIDE]--;
            }
        }

        void passYear(boolean frost) {
            raise();
            year = Math.min(LAST_YEAR, year + 1);
            if (frost) {
                freeze();
            }
            waiting = 0;
            fall();
            for (int child = 0; child < town.childCount(); child++) {
                if (where(child) == ON_SHELF && (waiting & 1 << child) == 0) {
                    buildIn(child);
                }
            }
        }

        private void raise() {
            for (int child = 0; child < town.childCount(); child++) {
                if (where(child) == RAISED) {
                    strong[child] = town.grown(homeOf[child], age(child), strong[child], year);
                }
            }
        }

        private void freeze() {
            for (int child = 0; child < town.childCount(); child++) {
                if (place[child] != NONE) {
                    strong[child] = Math.max(0, strong[child] - town.bites);
                }
            }
        }

        /** What FALLS can leave a twin weaker in a column seen already: so again from the first. */
        private void fall() {
            int wall = 0;
            for (int n = 0; n < MAX_WALLS * (MAX_CHILDREN + 1) && wall < town.wallCount(); n++) {
                int spot = weakSpot(wall);
                if (spot == NONE) {
                    wall++;
                } else {
                    dropFrom(spot);
                    wall = 0;
                }
            }
        }

        /** The stone at a spot and all above it in its column come onto the SHELF. */
        private void dropFrom(int spot) {
            int top = spot / MAX_SIDE * MAX_SIDE + height[spot / MAX_SIDE];
            for (int k = spot; k < top; k++) {
                int child = lies[k];
                if (child != NONE) {
                    lift(child);
                    waiting |= 1 << child;
                    fell++;
                    keep(child, wallAt(k), 0);
                }
            }
        }

        void pullOut(int child) {
            dropFrom(place[child]);
            fall();
        }

        /** Builds a stone in where it can be first; whether it could. */
        boolean buildIn(int child) {
            for (int wall = 0; wall < town.wallCount(); wall++) {
                int spot = freeSpot(wall);
                if (spot != NONE && isPeaceful(child, spot) && mayLie(child, spot)) {
                    put(child, spot);
                    if (weakSpot(wall) == NONE) {
                        built++;
                        keep(child, wall, 1);
                        return true;
                    }
                    lift(child);
                }
            }
            return false;
        }

        /** On top of the column with fewest stones; NONE if that is high already. */
        private int freeSpot(int wall) {
            int best = wall * MAX_SIDE;
            for (int column = best + 1; column < wall * MAX_SIDE + town.wide[wall]; column++) {
                best = height[column] < height[best] ? column : best;
            }
            return height[best] < town.high[wall] ? best * MAX_SIDE + height[best] : NONE;
        }

        private int leftOf(int spot) {
            return spot % WALL_SPOTS >= MAX_SIDE ? lies[spot - MAX_SIDE] : NONE;
        }

        private int rightOf(int spot) {
            return spot % WALL_SPOTS < WALL_SPOTS - MAX_SIDE ? lies[spot + MAX_SIDE] : NONE;
        }

        private boolean isPeaceful(int child, int spot) {
            int left = leftOf(spot);
            int right = rightOf(spot);
            int near = (left != NONE ? 1 << left : 0) | (right != NONE ? 1 << right : 0);
            return near == 0 || (near & town.foes(child, ended)) == 0;
        }

        private boolean mayLie(int child, int spot) {
            if (town.may.size == 0) {
                return true;
            }
            int left = leftOf(spot);
            int course = spot % MAX_SIDE;
            int under = course > 0 ? lies[spot - 1] : NONE;
            town.setFacts(homeOf[child], age(child), strong[child], year);
            town.facts[Word.COURSE.fact] = course;
            town.facts[Word.LEFT.fact] = left != NONE ? strong[left] : 0;
            town.facts[Word.UNDER.fact] = under != NONE ? strong[under] : 0;
            return town.may.value(town.facts) != 0;
        }

        private void keep(int child, int wall, int wasBuilt) {
            if (keptCount == MAX_KEPT) {
                System.arraycopy(kept, 1, kept, 0, MAX_KEPT - 1);
                keptCount--;
            }
            kept[keptCount] = year << 6 | child << 3 | wall << 1 | wasBuilt;
            keptCount++;
        }

        /** How strong a CHILD's stone will be when DONE, were he in a HOME from now on. */
        int strongWhenDone(int child, int home) {
            int sum = strong[child];
            for (int a = Math.max(age(child), town.raisedFrom); a < town.raisedTo; a++) {
                sum = town.grown(home, a, sum, town.born[child] + a);
            }
            return sum;
        }
    }

    /** The worlds ahead of the last ACTS, each packed into a row. */
    private static final class Acts {
        static final int STONES = 3;
        static final int KEPT = STONES + MAX_CHILDREN;

        final int[][] rows = new int[MAX_ACTS][KEPT + MAX_KEPT];
        int count;
        private int next;

        void forget() {
            count = 0;
        }

        void save(World world) {
            int[] row = rows[next];
            row[0] = world.year;
            row[1] = world.ended;
            row[2] = world.keptCount;
            for (int child = 0; child < MAX_CHILDREN; child++) {
                int lies = world.place[child] + 1;
                row[STONES + child] = world.strong[child] << 12 | lies << 4 | world.homeOf[child];
            }
            System.arraycopy(world.kept, 0, row, KEPT, MAX_KEPT);
            next = (next + 1) % MAX_ACTS;
            count = Math.min(MAX_ACTS, count + 1);
        }

        boolean takeBack(World world) {
            if (count == 0) {
                return false;
            }
            count--;
            next = (next + MAX_ACTS - 1) % MAX_ACTS;
            int[] row = rows[next];
            world.year = row[0];
            world.ended = row[1];
            world.keptCount = row[2];
            world.clearWalls();
            for (int child = 0; child < MAX_CHILDREN; child++) {
                int stone = row[STONES + child];
                int lies = stone >> 4 & 255;
                world.strong[child] = stone >> 12;
                world.homeOf[child] = stone & 15;
                if (lies > 0) {
                    world.put(child, lies - 1);
                }
            }
            System.arraycopy(row, KEPT, world.kept, 0, MAX_KEPT);
            return true;
        }
    }

    /** What the seams of a stone tell of the HOMES in which it can have been raised. */
    private static final class Seams {
        static final int MAX_ROWS = 16;
        static final int ROW = 3;

        int homes;
        private int born;
        private final int[] strong = new int[MAX_HOMES];

        void forget(Town town) {
            homes = (1 << town.homeCount()) - 1;
            born = 0;
        }

        /** Takes the tape as SEAMS; false, all staying, if it is none. */
        boolean take(Town town, Tape tape, int bornIn) {
            int rows = tape.size / ROW;
            if (tape.size % ROW != 0 || rows < 1 || rows > MAX_ROWS) {
                return false;
            }
            if (bornIn < 0 || bornIn > LAST_BORN) {
                return false;
            }
            for (int row = 0; row < rows; row++) {
                int years = tape.byteAt(row * ROW);
                if (years < 1 || years > town.span()) {
                    return false;
                }
            }
            born = bornIn;
            homes = 0;
            for (int home = 0; home < town.homeCount(); home++) {
                homes |= canBe(town, tape, home) ? 1 << home : 0;
            }
            return true;
        }

        private boolean canBe(Town town, Tape tape, int home) {
            strong[home] = 0;
            for (int years = 1; years <= town.span(); years++) {
                raise(town, home, years);
                for (int at = 0; at < tape.size; at += ROW) {
                    if (tape.byteAt(at) == years && tape.pairAt(at + 1) != strong[home]) {
                        return false;
                    }
                }
            }
            return true;
        }

        /** The stone of a HOME goes through the YEAR that is told, counted from 1 on. */
        private void raise(Town town, int home, int years) {
            int age = town.raisedFrom + years - 1;
            strong[home] = town.grown(home, age, strong[home], born + age);
        }

        int telling(Town town) {
            if (homes == 0) {
                return NONE;
            }
            Arrays.fill(strong, 0);
            int best = NONE;
            int fewest = MAX_HOMES + 1;
            for (int years = 1; years <= town.span(); years++) {
                for (int home = 0; home < town.homeCount(); home++) {
                    raise(town, home, years);
                }
                int left = mostAlike();
                if (left < fewest) {
                    fewest = left;
                    best = years;
                }
            }
            return best;
        }

        /** How many of the HOMES are left at most, whichever strength it is. */
        private int mostAlike() {
            int most = 0;
            for (int one = 0; one < MAX_HOMES; one++) {
                int alike = 0;
                for (int other = 0; other < MAX_HOMES; other++) {
                    boolean both = (homes & 1 << one) != 0 && (homes & 1 << other) != 0;
                    alike += both && strong[one] == strong[other] ? 1 : 0;
                }
                most = Math.max(most, alike);
            }
            return most;
        }
    }

    /** A world as bytes. */
    private static final class Image {
        static final int STONES = 2;
        static final int STONE = 6;
        static final int FIRST_SUM = 167;

        final int[] bytes = new int[STONES + STONE * MAX_CHILDREN + MAX_FEUDS + 1];
        int size;

        void write(World world) {
            size = 0;
            addPair(world.year);
            for (int child = 0; child < world.town.childCount(); child++) {
                int spot = world.place[child];
                boolean lies = spot != NONE;
                add(world.homeOf[child]);
                addPair(world.strong[child]);
                add(lies ? World.wallAt(spot) + 1 : 0);
                add(lies ? spot / MAX_SIDE % MAX_SIDE : 0);
                add(lies ? spot % MAX_SIDE : 0);
            }
            for (int feud = 0; feud < world.town.feuds; feud++) {
                add(world.ended >> feud & 1);
            }
            int sum = FIRST_SUM;
            for (int k = 0; k < size; k++) {
                sum = sumWith(sum, bytes[k]);
            }
            add(sum);
        }

        private void add(int octet) {
            if (size < bytes.length) {
                bytes[size] = octet;
                size++;
            }
        }

        private void addPair(int number) {
            add(number / 256);
            add(number % 256);
        }

        private static int sumWith(int sum, int octet) {
            return (5 * sum + octet) % 251;
        }

        /** Reads the tape into a world; false if it is no image of its town. */
        static boolean read(Tape tape, Town town, World into) {
            int feuds = STONES + STONE * town.childCount();
            if (tape.size != feuds + town.feuds + 1 || !sumFits(tape)) {
                return false;
            }
            into.begin(town);
            into.year = tape.pairAt(0);
            boolean fits = into.year <= LAST_YEAR;
            for (int child = 0; child < town.childCount() && fits; child++) {
                fits = readStone(tape, child, into);
            }
            for (int feud = 0; feud < town.feuds; feud++) {
                int octet = tape.byteAt(feuds + feud);
                fits &= octet <= 1;
                into.ended |= octet == 1 ? 1 << feud : 0;
            }
            return fits && allRest(into);
        }

        private static boolean sumFits(Tape tape) {
            int sum = FIRST_SUM;
            for (int k = 0; k < tape.size - 1; k++) {
                sum = sumWith(sum, tape.byteAt(k));
            }
            return tape.byteAt(tape.size - 1) == sum;
        }

        private static boolean readStone(Tape tape, int child, World into) {
            int from = STONES + STONE * child;
            Town town = into.town;
            int home = tape.byteAt(from);
            int strong = tape.pairAt(from + 1);
            int wall = tape.byteAt(from + 3) - 1;
            int column = tape.byteAt(from + 4);
            int course = tape.byteAt(from + 5);
            if (home >= town.homeCount() || strong > MOST_STRONG) {
                return false;
            }
            into.homeOf[child] = home;
            into.strong[child] = strong;
            if (wall == NONE) {
                return column == 0 && course == 0;
            }
            if (wall >= town.wallCount() || !into.isDone(child)) {
                return false;
            }
            if (column >= town.wide[wall] || course >= town.high[wall]) {
                return false;
            }
            int spot = World.spot(wall, column, course);
            if (into.lies[spot] != NONE) {
                return false;
            }
            into.put(child, spot);
            return true;
        }

        /** Whether each stone lies on the ground or on another one. */
        private static boolean allRest(World world) {
            for (int child = 0; child < world.town.childCount(); child++) {
                int spot = world.place[child];
                if (spot != NONE && spot % MAX_SIDE > 0 && world.lies[spot - 1] == NONE) {
                    return false;
                }
            }
            return true;
        }
    }

    /** What is asked of the time ahead, tried out in a world of its own. */
    private static final class Plans {
        final World ahead;
        /** ORDER, and how many are BUILT IN by it. */
        final int[] best = new int[MAX_ORDER];
        int most;
        private final int[] row = new int[MAX_ORDER];
        private int places;

        Plans(Town town) {
            ahead = new World(town);
        }

        /** Goes YEARS AHEAD, with some FEUDS ended beforehand; how many are BUILT IN then. */
        int goAhead(World now, int years, int ending) {
            ahead.copy(now);
            ahead.ended |= ending;
            for (int n = 0; n < years; n++) {
                ahead.passYear(false);
            }
            return Integer.bitCount(ahead.bitsAt(BUILT_IN));
        }

        int firstBuilt(World now, int child) {
            ahead.copy(now);
            for (int n = 0; n <= MAX_AHEAD && now.year + n <= LAST_YEAR; n++) {
                if (ahead.place[child] != NONE) {
                    return n;
                }
                ahead.passYear(false);
            }
            return NONE;
        }

        int comingDown(World now, int child) {
            ahead.copy(now);
            ahead.pullOut(child);
            return now.bitsAt(BUILT_IN) & ~ahead.bitsAt(BUILT_IN);
        }

        int fewestProps(World now, int wall) {
            int stones = 0;
            for (int child = 0; child < now.town.childCount(); child++) {
                boolean here = now.place[child] != NONE && World.wallAt(now.place[child]) == wall;
                stones |= here ? 1 << child : 0;
            }
            int chosen = stones;
            for (int bits = 0; bits < 1 << MAX_CHILDREN; bits++) {
                boolean fewer = Integer.bitCount(bits) < Integer.bitCount(chosen);
                if ((bits & ~stones) == 0 && fewer && holdsPropped(now, wall, bits)) {
                    chosen = bits;
                }
            }
            return chosen;
        }

        private static boolean holdsPropped(World now, int wall, int propped) {
            for (int column = 0; column < now.town.wide[wall]; column++) {
                int above = 0;
                for (int k = now.height[wall * MAX_SIDE + column] - 1; k >= 0; k--) {
                    int child = now.lies[World.spot(wall, column, k)];
                    if (child == NONE || (propped & 1 << child) != 0) {
                        above = 0;
                        continue;
                    }
                    if (now.bears(child, now.town.bites) < above * now.town.weighs) {
                        return false;
                    }
                    above++;
                }
            }
            return true;
        }

        int strongestHome(World now, int child) {
            int chosen = 0;
            int strong = NONE;
            for (int home = 0; home < now.town.homeCount(); home++) {
                int there = now.strongWhenDone(child, home);
                if (there > strong) {
                    strong = there;
                    chosen = home;
                }
            }
            return chosen;
        }

        void findOrder(World now, int shelf) {
            ahead.copy(now);
            places = Integer.bitCount(shelf);
            most = NONE;
            orderFrom(0, shelf, 0);
            most = Math.max(0, most);
        }

        /** Rows come by CHILDREN, so only one that builds more takes another one's place. */
        private void orderFrom(int depth, int left, int count) {
            if (depth >= places || depth >= MAX_ORDER) {
                if (count > most) {
                    most = count;
                    System.arraycopy(row, 0, best, 0, MAX_ORDER);
                }
                return;
            }
            for (int child = 0; child < MAX_CHILDREN; child++) {
                boolean hopeful = count + places - depth > most;
                if ((left & 1 << child) != 0 && hopeful) {
                    row[depth] = child;
                    boolean lies = ahead.buildIn(child);
                    orderFrom(depth + 1, left & ~(1 << child), count + (lies ? 1 : 0));
                    ahead.lift(child);
                }
            }
        }

        boolean firstWins(World now, int wall) {
            ahead.copy(now);
            return winsFrom(wall, 0);
        }

        private boolean winsFrom(int wall, int depth) {
            boolean wins = false;
            int first = wall * MAX_SIDE;
            for (int column = first; column < first + MAX_SIDE && !wins; column++) {
                int spot = column * MAX_SIDE + ahead.height[column] - 1;
                int child = ahead.height[column] > 0 ? ahead.lies[spot] : NONE;
                if (child != NONE && depth < MAX_CHILDREN) {
                    ahead.lift(child);
                    wins = ahead.weakSpot(wall) == NONE && !winsFrom(wall, depth + 1);
                    ahead.put(child, spot);
                }
            }
            return wins;
        }
    }
}
