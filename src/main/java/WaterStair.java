import java.util.Arrays;

/**
 * Levels one below another, from an upper lake to a lower one, and barges that are let down and lifted by
 * the water that is poured between them. What each call promises stands in DOC.md, by numbers.
 */
public final class WaterStair {
    public static final int NONE = -1;

    private static final int MOST_BYTES = 400;
    private static final int MOST_LEVELS = 8;
    private static final int MOST_BARGES = 6;
    private static final int MOST_RULES = 6;
    private static final int MOST_IMAGES = 4;
    private static final int MOST_BOOKED = 10;
    private static final int MOST_WATER = 9999;
    private static final int MOST_TOLD_WATER = 999;
    private static final int MOST_RUN = 200;
    private static final int MOST_WENT = 3;
    private static final int MOST_SEASONS = 20;
    private static final int MOST_WEIGHT = 99;
    private static final int MOST_EXTRA = 20;
    private static final int ABSENT = -2;
    private static final int UNKNOWN = -3;

    private final Tape tape = new Tape();
    private final State now = new State();
    // what is only asked is tried here, so that nothing changes by it
    private final State trial = new State();
    private final State[] images = new State[MOST_IMAGES];
    private final Rule[] rules = new Rule[MOST_RULES];
    private int ruleCount = 0;
    private final StairText stairText = new StairText(tape, trial);
    private final RuleText ruleText = new RuleText(tape);
    private final Search search = new Search(trial);
    private final Dusk dusk = new Dusk(trial);

    public WaterStair() {
    }

    public int feed(int a, int b, int c, int d, int e) {
        if (tape.length > MOST_BYTES - 20) {
            return NONE;
        }
        tape.append(a);
        tape.append(b);
        tape.append(c);
        tape.append(d);
        tape.append(e);
        return tape.length;
    }

    public int end(int n) {
        if (n < 0 || n > tape.length) {
            return NONE;
        }
        tape.length = n;
        return n;
    }

    public int stair() {
        int fault = stairText.readStair();
        tape.length = 0;
        if (fault != 0) {
            return -2 - fault;
        }
        trial.inForce = now.inForce;
        trial.x = now.x;
        now.copyFrom(trial);
        search.forget();
        return now.levels;
    }

    public int rule() {
        if (ruleCount >= MOST_RULES) {
            return NONE;
        }
        Rule read = ruleText.readRule();
        tape.length = 0;
        if (read == null) {
            return -2 - tape.fault;
        }
        rules[ruleCount] = read;
        ruleCount++;
        return ruleCount - 1;
    }

    public int force(int rule) {
        if (rule < NONE || rule >= ruleCount) {
            return ABSENT;
        }
        int before = now.inForce;
        now.inForce = rule;
        search.forget();
        return before;
    }

    public int level(int level, int what) {
        if (!now.hasLevel(level)) {
            return NONE;
        }
        switch (what) {
            case 0:
                return now.water[level];
            case 1:
                return now.seats[level];
            case 2:
                return now.bargeBitsAt(level);
            case 3:
                return now.hasStep(level) ? now.whole[level] : NONE;
            default:
                return NONE;
        }
    }

    public int barge(int barge, int what) {
        if (!now.hasBarge(barge)) {
            return NONE;
        }
        switch (what) {
            case 0:
                return now.at[barge];
            case 1:
                return now.weight[barge];
            case 2:
                return now.wide[barge];
            case 3:
                return now.way[barge];
            case 4:
                return now.toll[barge];
            case 5:
                return now.isHome(barge) ? 1 : 0;
            default:
                return NONE;
        }
    }

    public int tip(int step, int down, int up) {
        int answer = may(step, down, up);
        if (answer >= 0) {
            now.doTip(State.tipOf(step, down, up));
            search.forget();
        }
        return answer;
    }

    public int may(int step, int down, int up) {
        if (!now.isTip(step, down, up)) {
            return NONE;
        }
        int law = now.brokenLaw(ruleInForce(), step, down, up);
        return law == 0 ? now.need(down, up) : -2 - law;
    }

    public int rain(int level, int tons) {
        if (!now.hasLevel(level) || tons < 0 || tons > MOST_WATER) {
            return NONE;
        }
        if (now.water[level] < MOST_WATER) {
            now.water[level] = Math.min(now.water[level] + tons, MOST_WATER);
        }
        search.forget();
        return now.water[level];
    }

    public boolean chain(int step, boolean isWhole) {
        int wanted = isWhole ? 1 : 0;
        if (!now.hasStep(step) || now.whole[step] == wanted) {
            return false;
        }
        now.whole[step] = wanted;
        search.forget();
        return true;
    }

    public int run(int n) {
        if (now.levels == 0 || n < 0 || n > MOST_RUN) {
            return NONE;
        }
        search.forget();
        return now.runTips(ruleInForce(), n);
    }

    public int would(int n, int what) {
        if (now.levels == 0 || n < 0 || n > MOST_RUN || what < 0 || what > 3) {
            return NONE;
        }
        trial.copyFrom(now);
        int done = trial.runTips(ruleInForce(), n);
        switch (what) {
            case 0:
                return done;
            case 1:
                return Integer.bitCount(trial.homeBits());
            case 2:
                return trial.poured - now.poured;
            default:
                return trial.isStuck(ruleInForce()) ? 1 : 0;
        }
    }

    public int can() {
        return now.levels == 0 ? NONE : now.gatherTips(ruleInForce(), now.tipsFound, now.tipsFound.length);
    }

    public int plan(int barges, boolean byWater) {
        if (!now.isSet(barges)) {
            return NONE;
        }
        search.explore(now, ruleInForce(), byWater, now.water[0]);
        return search.costOf(barges);
    }

    public int row(int barges, boolean byWater, int k, int what) {
        if (!now.isSet(barges) || k < 0 || what < 0 || what > 2) {
            return NONE;
        }
        search.explore(now, ruleInForce(), byWater, now.water[0]);
        int tip = search.tipOfRow(barges, k);
        return tip < 0 ? tip : State.partOf(tip, what);
    }

    public int drought(int tons, int what) {
        if (now.levels == 0 || tons < 0 || tons > MOST_TOLD_WATER || what < 0 || what > 1) {
            return NONE;
        }
        search.explore(now, ruleInForce(), false, tons);
        int best = 0;
        for (int set = 1; set < 1 << now.barges; set++) {
            if (search.costOf(set) >= 0 && now.isDearer(set, best)) {
                best = set;
            }
        }
        return what == 0 ? now.tollOf(best) : best;
    }

    public int pass(int step) {
        return now.hasStep(step) ? now.passersOf(step) : NONE;
    }

    public int worst() {
        if (now.levels == 0) {
            return NONE;
        }
        int worst = 0;
        for (int step = 1; step < now.levels - 1; step++) {
            if (now.passersOf(step) > now.passersOf(worst)) {
                worst = step;
            }
        }
        return worst;
    }

    public boolean seen(int level, int tons) {
        if (!now.hasLevel(level) || tons < NONE || tons > MOST_WATER) {
            return false;
        }
        now.seenWater[level] = tons;
        return true;
    }

    public int went(int n, int what) {
        if (now.levels == 0 || n < 1 || n > MOST_WENT || what < 0 || what > 3 * n) {
            return NONE;
        }
        int rows = dusk.countRows(now, ruleInForce(), n, what == 0 ? Dusk.MOST_ROWS : 1);
        if (what == 0) {
            return rows;
        }
        return rows == 0 ? ABSENT : State.partOf(dusk.first[(what - 1) / 3], (what - 1) % 3);
    }

    public int book(int step, int down, int up) {
        if (step == NONE) {
            now.booked = 0;
            return 0;
        }
        if (!now.isTip(step, down, up) || now.booked >= MOST_BOOKED) {
            return ABSENT;
        }
        now.bookTips[now.booked] = State.tipOf(step, down, up);
        now.booked++;
        return now.booked;
    }

    public int smuggled(int what) {
        if (now.levels == 0 || what < 0 || what > 2) {
            return NONE;
        }
        dusk.searchSmuggled(now);
        switch (what) {
            case 0:
                return dusk.pairs;
            case 1:
                return dusk.pairs == 0 ? ABSENT : dusk.firstBarge;
            default:
                return dusk.pairs == 0 ? 0 : dusk.firstExtra;
        }
    }

    public int seed(int x) {
        if (x < 0) {
            return NONE;
        }
        int before = now.x;
        now.x = x;
        return before;
    }

    public int seasons(int m, int w, int what) {
        if (now.levels == 0 || m < 1 || m > MOST_SEASONS || w < 1 || w > MOST_WEIGHT || what < 0 || what > 1) {
            return NONE;
        }
        int home = 0;
        int poured = 0;
        int x = now.x;
        for (int season = 0; season < m; season++) {
            trial.copyFrom(now);
            trial.x = x;
            trial.drawBarges(w);
            x = trial.x;
            trial.runTips(ruleInForce(), MOST_RUN);
            home += Integer.bitCount(trial.homeBits());
            poured += trial.poured - now.poured;
        }
        return what == 0 ? home : poured;
    }

    public int count(int what) {
        switch (what) {
            case 0:
                return now.levels;
            case 1:
                return now.barges;
            case 2:
                return Integer.bitCount(now.homeBits());
            case 3:
                return now.tips;
            case 4:
                return now.allWater();
            case 5:
                return now.poured;
            case 6:
                return ruleCount;
            case 7:
                return now.inForce;
            case 8:
                return now.lag;
            case 9:
                return now.booked;
            case 10:
                return now.levelsSeen();
            case 11:
                return now.x;
            case 12:
                return tape.length;
            default:
                return NONE;
        }
    }

    public int image(int k) {
        if (k < 0 || k >= MOST_IMAGES) {
            return NONE;
        }
        if (images[k] == null) {
            images[k] = new State();
        }
        images[k].copyFrom(now);
        return now.tips;
    }

    public int back(int k) {
        if (k < 0 || k >= MOST_IMAGES || images[k] == null) {
            return NONE;
        }
        now.copyFrom(images[k]);
        search.forget();
        return now.tips;
    }

    private Rule ruleInForce() {
        int number = now.inForce;
        return number < 0 || number >= ruleCount ? null : rules[number];
    }

    /** The bytes that were fed, and the sign among them that a reader has before it. */
    private static final class Tape {
        static final int AT_END = 256;
        static final int NUMBER = 257;
        static final int WORD = 258;
        static final int AT_MOST = 259;
        static final int AT_LEAST = 260;
        // no reader asks for it: behind a fault nothing matches, and every reader comes to its end
        static final int FAULTY = 261;
        static final int MOST_DIGITS = 5;
        static final int BLANK = 32;

        final byte[] bytes = new byte[MOST_BYTES];
        int length = 0;
        int kind = AT_END;
        // of a NUMBER; NONE if it has too many digits
        int number = 0;
        int start = 0;
        int behind = 0;
        int fault = 0;

        void append(int four) {
            for (int shift = 24; shift >= 0 && length < MOST_BYTES; shift -= 8) {
                bytes[length] = (byte) (four >> shift);
                length++;
            }
        }

        void begin() {
            fault = 0;
            behind = 0;
            advance();
        }

        void advance() {
            if (fault != 0) {
                return;
            }
            start = behind;
            while (start < length && start < MOST_BYTES && bytes[start] == BLANK) {
                start++;
            }
            behind = start;
            if (start >= length || start >= MOST_BYTES) {
                kind = AT_END;
            } else if (hasTaken('0', '9')) {
                kind = NUMBER;
                number = numberTaken();
            } else if (hasTaken('a', 'z')) {
                kind = WORD;
            } else {
                takeSign(bytes[start]);
            }
        }

        void fail(int why) {
            if (fault == 0) {
                fault = 1 + 8 * start + why;
                kind = FAULTY;
            }
        }

        boolean isWord(String word) {
            return wordAmong(word) == 0;
        }

        /** Which of the names, a blank between each two, the word is; NONE: it is none of these. */
        int wordAmong(String names) {
            int name = 0;
            // how far the word is as the name so far; NONE: the name is another
            int same = start;
            for (int i = 0; i <= names.length() && kind == WORD; i++) {
                boolean isOver = i == names.length() || names.charAt(i) == BLANK;
                if (isOver && same == behind) {
                    return name;
                }
                if (isOver) {
                    name++;
                    same = start;
                } else if (same >= 0 && same < behind && same < MOST_BYTES && bytes[same] == names.charAt(i)) {
                    same++;
                } else {
                    same = NONE;
                }
            }
            return NONE;
        }

        /** Goes behind all bytes from least to most, as far as these go on; whether there was one. */
        private boolean hasTaken(int least, int most) {
            while (behind < length && behind < MOST_BYTES && bytes[behind] >= least && bytes[behind] <= most) {
                behind++;
            }
            return behind > start;
        }

        private int numberTaken() {
            if (behind - start > MOST_DIGITS) {
                return NONE;
            }
            int value = 0;
            for (int i = start; i < behind && i < MOST_BYTES; i++) {
                value = value * 10 + bytes[i] - '0';
            }
            return value;
        }

        private void takeSign(int first) {
            kind = first & 255;
            behind = start + 1;
            boolean isEqualNext = behind < length && behind < MOST_BYTES && bytes[behind] == '=';
            if (isEqualNext && (first == '<' || first == '>')) {
                kind = first == '<' ? AT_MOST : AT_LEAST;
                behind++;
            }
        }
    }

    /** Reads the tape as a stair, into a state that is only a draft of it. */
    private static final class StairText {
        static final int MOST_CLAUSES = 32;
        static final int MOST_SEATS = 8;
        static final int MOST_LAG = 20;

        final Tape tape;
        final State draft;
        boolean isLagTold = false;
        boolean isBrokenTold = false;

        StairText(Tape tape, State draft) {
            this.tape = tape;
            this.draft = draft;
        }

        /** The fault; 0: there is none, and the draft is the stair. */
        int readStair() {
            draft.clear();
            isLagTold = false;
            isBrokenTold = false;
            tape.begin();
            for (int clause = 0; clause <= MOST_CLAUSES && tape.fault == 0; clause++) {
                readClause(clause < MOST_CLAUSES);
                if (tape.kind == Tape.AT_END) {
                    break;
                }
                if (tape.kind != ';') {
                    tape.fail(0);
                }
                tape.advance();
            }
            if (draft.levels < 2) {
                tape.fail(0);
            }
            return tape.fault;
        }

        private void readClause(boolean isOneMoreAllowed) {
            boolean isBehindLevels = draft.levels >= 2;
            if (tape.isWord("level")) {
                boolean isAhead = draft.barges == 0 && !isBrokenTold;
                readLevel(isOneMoreAllowed && isAhead && draft.levels < MOST_LEVELS);
            } else if (tape.isWord("lag")) {
                readLag(isOneMoreAllowed && !isLagTold);
            } else if (tape.isWord("barge")) {
                readBarge(isOneMoreAllowed && isBehindLevels && draft.barges < MOST_BARGES);
            } else if (tape.isWord("broken")) {
                readBroken(isOneMoreAllowed && isBehindLevels);
            } else {
                tape.fail(0);
            }
        }

        private void readLevel(boolean isAllowed) {
            if (!isAllowed) {
                tape.fail(4);
                return;
            }
            tape.advance();
            draft.water[draft.levels] = readNumber(0, MOST_TOLD_WATER);
            draft.seats[draft.levels] = readNumber(1, MOST_SEATS);
            draft.levels++;
        }

        private void readLag(boolean isAllowed) {
            if (!isAllowed) {
                tape.fail(4);
                return;
            }
            tape.advance();
            isLagTold = true;
            draft.lag = readNumber(0, MOST_LAG);
        }

        private void readBarge(boolean isAllowed) {
            if (!isAllowed) {
                tape.fail(4);
                return;
            }
            tape.advance();
            int barge = draft.barges;
            draft.weight[barge] = readNumber(1, MOST_WEIGHT);
            draft.wide[barge] = readNumber(0, 1);
            draft.way[barge] = readNumber(0, 1);
            draft.toll[barge] = readNumber(0, MOST_TOLD_WATER);
            draft.barges++;
            draft.putAtBegin(barge);
        }

        private void readBroken(boolean isAllowed) {
            if (!isAllowed) {
                tape.fail(4);
                return;
            }
            tape.advance();
            isBrokenTold = true;
            int step = readNumber(0, draft.levels - 2);
            draft.whole[step] = 0;
        }

        private int readNumber(int least, int most) {
            if (tape.kind != Tape.NUMBER) {
                tape.fail(0);
                return least;
            }
            int number = tape.number;
            if (number < least || number > most) {
                tape.fail(1);
                return least;
            }
            tape.advance();
            return number;
        }
    }

    /** Reads the tape as a rule: what it reads comes out as a row of codes, each behind what it works on. */
    private static final class RuleText {
        static final int MOST_CLAUSES = 12;
        static final int MOST_DEEP = 10;
        static final int MOST_COUNTED = 60;

        final Tape tape;
        // every code comes of a sign of its own, so that there are not more than bytes
        final int[] codes = new int[MOST_BYTES];
        int size = 0;
        int counted = 0;

        RuleText(Tape tape) {
            this.tape = tape;
        }

        /** Null if the tape has a fault. */
        Rule readRule() {
            size = 0;
            counted = 0;
            tape.begin();
            for (int clause = 0; clause <= MOST_CLAUSES && tape.fault == 0; clause++) {
                takeBar(clause < MOST_CLAUSES);
                readTest(0);
                if (clause > 0) {
                    emit(Rule.OR);
                }
                if (tape.kind == Tape.AT_END) {
                    return new Rule(Arrays.copyOf(codes, size));
                }
                if (tape.kind != ';') {
                    tape.fail(0);
                }
                tape.advance();
            }
            return null;
        }

        private void takeBar(boolean isOneMoreAllowed) {
            if (!tape.isWord("bar")) {
                tape.fail(0);
            } else if (!isOneMoreAllowed) {
                tape.fail(4);
            }
            tape.advance();
        }

        private void readTest(int depth) {
            readFact(depth);
            boolean isOrOpen = false;
            for (int i = 0; i < MOST_BYTES && (tape.isWord("or") || tape.isWord("and")); i++) {
                boolean isOr = tape.isWord("or");
                if (isOr && isOrOpen) {
                    emit(Rule.OR);
                }
                tape.advance();
                readFact(depth);
                if (!isOr) {
                    emit(Rule.AND);
                }
                // and binds closer: an or waits till its part is over
                isOrOpen |= isOr;
            }
            if (isOrOpen) {
                emit(Rule.OR);
            }
        }

        private void readFact(int depth) {
            boolean isNot = tape.isWord("not");
            boolean isBracket = tape.kind == '[';
            if ((isNot || isBracket) && depth >= MOST_DEEP) {
                tape.fail(2);
            } else if (isNot) {
                tape.advance();
                readFact(depth + 1);
                emit(Rule.NOT);
            } else if (isBracket) {
                tape.advance();
                readTest(depth + 1);
                takeClosing();
            } else {
                readSum();
                int sign = takeComparison();
                readSum();
                emit(sign);
            }
        }

        private void takeClosing() {
            if (tape.kind != ']') {
                tape.fail(0);
            }
            tape.advance();
        }

        private int takeComparison() {
            int sign = comparisonAhead();
            if (sign == NONE) {
                tape.fail(0);
            } else {
                countOne();
            }
            tape.advance();
            return sign;
        }

        private int comparisonAhead() {
            switch (tape.kind) {
                case '<':
                    return Rule.LESS;
                case Tape.AT_MOST:
                    return Rule.AT_MOST;
                case '=':
                    return Rule.EQUAL;
                case Tape.AT_LEAST:
                    return Rule.AT_LEAST;
                case '>':
                    return Rule.MORE;
                default:
                    return NONE;
            }
        }

        private void readSum() {
            readValue();
            int open = NONE;
            for (int i = 0; i < MOST_BYTES && operatorAhead() != NONE; i++) {
                int operator = operatorAhead();
                boolean isOfTerm = operator == Rule.TIMES || operator == Rule.OVER;
                if (!isOfTerm && open != NONE) {
                    emit(open);
                }
                tape.advance();
                readValue();
                // * and / bind closer: + and - wait till their term is over
                if (isOfTerm) {
                    emit(operator);
                } else {
                    open = operator;
                }
            }
            if (open != NONE) {
                emit(open);
            }
        }

        private int operatorAhead() {
            switch (tape.kind) {
                case '+':
                    return Rule.PLUS;
                case '-':
                    return Rule.MINUS;
                case '*':
                    return Rule.TIMES;
                case '/':
                    return Rule.OVER;
                default:
                    return NONE;
            }
        }

        private void readValue() {
            int word = tape.wordAmong(Rule.NAMES);
            if (tape.kind == Tape.NUMBER && tape.number == NONE) {
                tape.fail(1);
            } else if (tape.kind == Tape.NUMBER) {
                countOne();
                emit(tape.number);
            } else if (word != NONE) {
                countOne();
                emit(Rule.codeOfWord(word));
            } else {
                tape.fail(0);
            }
            tape.advance();
        }

        private void countOne() {
            if (counted >= MOST_COUNTED) {
                tape.fail(3);
            }
            counted++;
        }

        private void emit(int code) {
            if (tape.fault == 0 && size < codes.length) {
                codes[size] = code;
                size++;
            }
        }
    }

    /** What may bar a tip: numbers and words of the tip, and what is made of them, each behind its parts. */
    private static final class Rule {
        static final int STEP = 0;
        static final int DOWN = 1;
        static final int UP = 2;
        static final int NEED = 3;
        static final int WATER = 4;
        static final int BELOW = 5;
        static final int HERE = 6;
        static final int THERE = 7;
        static final int WIDE = 8;
        static final int TIPS = 9;
        static final int WORDS = 10;
        static final String NAMES = "step down up need water below here there wide tips";
        // codes from here on work on what stands before them; a number has five digits at most
        static final int PLUS = 100000;
        static final int MINUS = 100001;
        static final int TIMES = 100002;
        static final int OVER = 100003;
        static final int LESS = 100004;
        static final int AT_MOST = 100005;
        static final int EQUAL = 100006;
        static final int AT_LEAST = 100007;
        static final int MORE = 100008;
        static final int AND = 100009;
        static final int OR = 100010;
        static final int NOT = 100011;

        final int[] codes;
        final long[] words = new long[WORDS];
        // only values lie here at once, of which there are 60 at most
        final long[] stack = new long[RuleText.MOST_COUNTED];

        Rule(int[] codes) {
            this.codes = codes;
        }

        static int codeOfWord(int word) {
            return -1 - word;
        }

        /** Whether it bars the tip that the words tell. */
        boolean holds() {
            int top = 0;
            for (int i = 0; i < codes.length; i++) {
                int code = codes[i];
                if (code < PLUS && top < stack.length) {
                    stack[top] = valueOf(code);
                    top++;
                } else if (code == NOT && top >= 1) {
                    stack[top - 1] = 1 - stack[top - 1];
                } else if (code >= PLUS && top >= 2) {
                    top--;
                    stack[top - 1] = combine(code, stack[top - 1], stack[top]);
                }
            }
            return top > 0 && stack[0] != 0;
        }

        private long valueOf(int code) {
            int word = -1 - code;
            return word >= 0 && word < WORDS ? words[word] : code;
        }

        private static long combine(int code, long a, long b) {
            switch (code) {
                case PLUS:
                    return a + b;
                case MINUS:
                    return a - b;
                case TIMES:
                    return a * b;
                case OVER:
                    return b == 0 ? 0 : a / b;
                case LESS:
                    return a < b ? 1 : 0;
                case AT_MOST:
                    return a <= b ? 1 : 0;
                case EQUAL:
                    return a == b ? 1 : 0;
                case AT_LEAST:
                    return a >= b ? 1 : 0;
                case MORE:
                    return a > b ? 1 : 0;
                case AND:
                    return a & b;
                default:
                    return a | b;
            }
        }
    }

    /** All that an image holds: the stair, where its barges are, and what was told and done since. */
    private static final class State {
        static final int GOES_DOWN = 0;
        static final int GOES_UP = 1;
        // a tip as one number: step, down and up, of which the last two have NONE as their least
        static final int STEP_SIZE = 49;
        static final int DOWN_SIZE = 7;
        static final int BITS_OF_PLACE = 3;
        static final int BITS_OF_WATER = 16;
        static final int LEVELS_IN_LONG = 4;

        int levels = 0;
        int barges = 0;
        int lag = 0;
        int tips = 0;
        int poured = 0;
        int inForce = NONE;
        int x = 0;
        int booked = 0;
        final int[] water = new int[MOST_LEVELS];
        final int[] seats = new int[MOST_LEVELS];
        final int[] whole = new int[MOST_LEVELS];
        final int[] seenWater = new int[MOST_LEVELS];
        final int[] at = new int[MOST_BARGES];
        final int[] weight = new int[MOST_BARGES];
        final int[] wide = new int[MOST_BARGES];
        final int[] way = new int[MOST_BARGES];
        final int[] toll = new int[MOST_BARGES];
        final int[] bookTips = new int[MOST_BOOKED];
        // fifteen are the most that six barges can have at once
        final int[] tipsFound = new int[16];

        static int tipOf(int step, int down, int up) {
            return step * STEP_SIZE + (down + 1) * DOWN_SIZE + up + 1;
        }

        static int stepOf(int tip) {
            return tip / STEP_SIZE;
        }

        static int downOf(int tip) {
            return tip % STEP_SIZE / DOWN_SIZE - 1;
        }

        static int upOf(int tip) {
            return tip % DOWN_SIZE - 1;
        }

        static int partOf(int tip, int what) {
            if (what == 0) {
                return stepOf(tip);
            }
            return what == 1 ? downOf(tip) : upOf(tip);
        }

        void clear() {
            levels = 0;
            barges = 0;
            lag = 0;
            tips = 0;
            poured = 0;
            booked = 0;
            Arrays.fill(whole, 1);
            Arrays.fill(seenWater, NONE);
        }

        void copyFrom(State other) {
            levels = other.levels;
            barges = other.barges;
            lag = other.lag;
            tips = other.tips;
            poured = other.poured;
            inForce = other.inForce;
            x = other.x;
            booked = other.booked;
            System.arraycopy(other.water, 0, water, 0, MOST_LEVELS);
            System.arraycopy(other.seats, 0, seats, 0, MOST_LEVELS);
            System.arraycopy(other.whole, 0, whole, 0, MOST_LEVELS);
            System.arraycopy(other.seenWater, 0, seenWater, 0, MOST_LEVELS);
            System.arraycopy(other.at, 0, at, 0, MOST_BARGES);
            System.arraycopy(other.weight, 0, weight, 0, MOST_BARGES);
            System.arraycopy(other.wide, 0, wide, 0, MOST_BARGES);
            System.arraycopy(other.way, 0, way, 0, MOST_BARGES);
            System.arraycopy(other.toll, 0, toll, 0, MOST_BARGES);
            System.arraycopy(other.bookTips, 0, bookTips, 0, MOST_BOOKED);
        }

        boolean hasLevel(int level) {
            return level >= 0 && level < levels;
        }

        boolean hasStep(int step) {
            return step >= 0 && step < levels - 1;
        }

        boolean hasBarge(int barge) {
            return barge >= 0 && barge < barges;
        }

        boolean isSet(int set) {
            return levels > 0 && set >= 0 && set < 1 << barges;
        }

        boolean isTip(int step, int down, int up) {
            boolean isDownTold = down == NONE || hasBarge(down);
            boolean isUpTold = up == NONE || hasBarge(up);
            return hasStep(step) && isDownTold && isUpTold && (down != NONE || up != NONE);
        }

        void putAtBegin(int barge) {
            if (hasBarge(barge)) {
                at[barge] = way[barge] == GOES_DOWN ? 0 : levels - 1;
            }
        }

        boolean isHome(int barge) {
            return hasBarge(barge) && at[barge] == (way[barge] == GOES_DOWN ? levels - 1 : 0);
        }

        int homeBits() {
            int bits = 0;
            for (int barge = 0; barge < barges; barge++) {
                if (isHome(barge)) {
                    bits |= 1 << barge;
                }
            }
            return bits;
        }

        int bargeBitsAt(int level) {
            int bits = 0;
            for (int barge = 0; barge < barges; barge++) {
                if (at[barge] == level) {
                    bits |= 1 << barge;
                }
            }
            return bits;
        }

        int tollOf(int set) {
            int sum = 0;
            for (int barge = 0; barge < barges; barge++) {
                sum += (set >> barge & 1) * toll[barge];
            }
            return sum;
        }

        boolean isDearer(int set, int other) {
            int more = tollOf(set) - tollOf(other);
            return more > 0 || more == 0 && Integer.bitCount(set) < Integer.bitCount(other);
        }

        int passersOf(int step) {
            int passers = 0;
            for (int barge = 0; barge < barges; barge++) {
                boolean isAbove = at[barge] <= step;
                if (isAbove == (way[barge] == GOES_DOWN)) {
                    passers++;
                }
            }
            return passers;
        }

        int allWater() {
            int sum = 0;
            for (int level = 0; level < levels; level++) {
                sum += water[level];
            }
            return sum;
        }

        int levelsSeen() {
            int sum = 0;
            for (int level = 0; level < levels; level++) {
                sum += seenWater[level] == NONE ? 0 : 1;
            }
            return sum;
        }

        boolean isAsSeen() {
            for (int level = 0; level < levels; level++) {
                if (seenWater[level] != NONE && seenWater[level] != water[level]) {
                    return false;
                }
            }
            return true;
        }

        int need(int down, int up) {
            int lift = Math.max(0, weightOf(up) + lag - weightOf(down));
            return lift * worth(down, up);
        }

        /** As how many tips one of these counts. */
        int worth(int down, int up) {
            return wideOf(down) + wideOf(up) > 0 ? 2 : 1;
        }

        private int weightOf(int barge) {
            return barge < 0 || barge >= barges ? 0 : weight[barge];
        }

        private int wideOf(int barge) {
            return barge < 0 || barge >= barges ? 0 : wide[barge];
        }

        /** The first law by which the tip may not be; 0: it may be. */
        int brokenLaw(Rule rule, int step, int down, int up) {
            if (!hasStep(step) || whole[step] == 0) {
                return 1;
            }
            if (!isReady(down, step, GOES_DOWN) || !isReady(up, step + 1, GOES_UP)) {
                return 2;
            }
            int more = (up == NONE ? 0 : 1) - (down == NONE ? 0 : 1);
            if (!hasSeats(step, more) || !hasSeats(step + 1, -more)) {
                return 3;
            }
            int need = need(down, up);
            if (water[step] < need) {
                return 4;
            }
            if (rule == null) {
                return 0;
            }
            tellWords(rule.words, step, down, up, need);
            return rule.holds() ? 5 : 0;
        }

        private boolean isReady(int barge, int level, int wantedWay) {
            return !hasBarge(barge) || at[barge] == level && way[barge] == wantedWay;
        }

        private boolean hasSeats(int level, int more) {
            boolean isLake = level <= 0 || level >= levels - 1;
            return isLake || Integer.bitCount(bargeBitsAt(level)) + more <= seats[level];
        }

        private void tellWords(long[] words, int step, int down, int up, int need) {
            if (words.length < Rule.WORDS || !hasStep(step)) {
                return;
            }
            words[Rule.STEP] = step;
            words[Rule.DOWN] = weightOf(down);
            words[Rule.UP] = weightOf(up);
            words[Rule.NEED] = need;
            words[Rule.WATER] = water[step];
            words[Rule.BELOW] = water[step + 1];
            words[Rule.HERE] = Integer.bitCount(bargeBitsAt(step));
            words[Rule.THERE] = Integer.bitCount(bargeBitsAt(step + 1));
            words[Rule.WIDE] = wideOf(down) + wideOf(up);
            words[Rule.TIPS] = tips;
        }

        /** Writes the first tips that may be, in the order of a run; how many these are. */
        int gatherTips(Rule rule, int[] found, int most) {
            int room = Math.min(most, found.length);
            int size = 0;
            for (int step = 0; step < levels - 1 && size < room; step++) {
                for (int i = 0; i <= barges && size < room; i++) {
                    int down = i < barges ? i : NONE;
                    if (!isReady(down, step, GOES_DOWN)) {
                        continue;
                    }
                    for (int j = 0; j <= barges && size < room; j++) {
                        int up = j < barges ? j : NONE;
                        if (isTip(step, down, up) && brokenLaw(rule, step, down, up) == 0) {
                            found[size] = tipOf(step, down, up);
                            size++;
                        }
                    }
                }
            }
            return size;
        }

        void doTip(int tip) {
            moveBarges(tip, 1);
            pour(tip, 1);
        }

        void undoTip(int tip) {
            moveBarges(tip, -1);
            pour(tip, -1);
        }

        private void moveBarges(int tip, int sign) {
            int down = downOf(tip);
            int up = upOf(tip);
            if (hasBarge(down)) {
                at[down] += sign;
            }
            if (hasBarge(up)) {
                at[up] -= sign;
            }
        }

        void pour(int tip, int sign) {
            int step = stepOf(tip);
            if (!hasStep(step)) {
                return;
            }
            int taken = sign * need(downOf(tip), upOf(tip));
            water[step] -= taken;
            water[step + 1] += taken;
            poured += taken;
            tips += sign * worth(downOf(tip), upOf(tip));
        }

        int runTips(Rule rule, int n) {
            int done = 0;
            while (done < n && gatherTips(rule, tipsFound, 1) > 0) {
                doTip(tipsFound[0]);
                done++;
            }
            return done;
        }

        boolean isStuck(Rule rule) {
            return homeBits() != (1 << barges) - 1 && gatherTips(rule, tipsFound, 1) == 0;
        }

        void drawBarges(int w) {
            for (int barge = 0; barge < barges; barge++) {
                weight[barge] = 1 + (w < 1 ? 0 : nextDraw() % w);
                way[barge] = nextDraw() % 2;
                putAtBegin(barge);
            }
        }

        private int nextDraw() {
            x = (int) ((x * 1103515245L + 12345L) % 2147483648L);
            return x / 65536;
        }

        int packedPlaces() {
            int packed = 0;
            for (int barge = 0; barge < barges; barge++) {
                packed |= at[barge] << BITS_OF_PLACE * barge;
            }
            return packed;
        }

        void unpackPlaces(int packed) {
            for (int barge = 0; barge < barges; barge++) {
                at[barge] = packed >> BITS_OF_PLACE * barge & (1 << BITS_OF_PLACE) - 1;
            }
        }

        /**
         * Four levels in one number. Sixteen bits are enough: rain comes to 9999 at most, and behind it there
         * are but 42 tips till all are home, of at most 238 tons each.
         */
        long packedWater(int first) {
            long packed = 0;
            for (int i = 0; i < LEVELS_IN_LONG && first + i < levels; i++) {
                packed |= (long) water[first + i] << BITS_OF_WATER * i;
            }
            return packed;
        }

        void unpackWater(int first, long packed) {
            for (int i = 0; i < LEVELS_IN_LONG && first + i < levels; i++) {
                water[first + i] = (int) (packed >> BITS_OF_WATER * i & (1 << BITS_OF_WATER) - 1);
            }
        }
    }

    /**
     * The situations that can be had from one, the least first. It goes on till every set of barges has its end
     * or none can have one: the order does not hang on the set, so one search answers for all sets.
     */
    private static final class Search {
        static final int MOST = 1500;
        static final int SLOTS = 4096;
        static final int SLOT_SHIFT = 52;
        static final int SETS = 64;
        static final int GONE_THROUGH = -1;
        static final int BY_WATER = -1;
        static final int NOTHING = -2;

        final State trial;
        final int[] tipsFound = new int[16];
        final int[] places = new int[MOST];
        final long[] upperWater = new long[MOST];
        final long[] lowerWater = new long[MOST];
        final int[] cost = new int[MOST];
        final int[] origin = new int[MOST];
        final int[] tipTo = new int[MOST];
        // the open ones as a heap, and where in it each of them is
        final int[] heap = new int[MOST];
        final int[] heapPlace = new int[MOST];
        // 1 and the number of a situation, found by what it is
        final int[] slots = new int[SLOTS];
        // of a set the situation in which it is home first
        final int[] ends = new int[SETS];
        int size = 0;
        int heapSize = 0;
        boolean isOverfull = false;
        // what the rows above tell of: by tips, the water of the upper lake
        int explored = NOTHING;

        Search(State trial) {
            this.trial = trial;
        }

        void forget() {
            explored = NOTHING;
        }

        void explore(State now, Rule rule, boolean byWater, int lake) {
            int wanted = byWater ? BY_WATER : lake;
            if (wanted == explored) {
                return;
            }
            explored = wanted;
            begin(now, lake);
            int all = (1 << now.barges) - 1;
            for (int gone = 0; gone < MOST && heapSize > 0 && !isOverfull; gone++) {
                int least = takeLeast();
                load(least);
                noteEnds(least, trial.homeBits());
                if (ends[all] != NONE) {
                    break;
                }
                spread(least, rule, byWater);
            }
        }

        /** What the plan of a set takes; below 0: there is none. */
        int costOf(int set) {
            int end = endOf(set);
            return end < 0 ? end : cost[end];
        }

        /** The tip of the row of a set; below 0: there is none. */
        int tipOfRow(int set, int k) {
            int end = endOf(set);
            if (end < 0) {
                return end;
            }
            int length = 0;
            for (int i = end; i > 0 && length < MOST; i = origin[i]) {
                length++;
            }
            if (k >= length) {
                return ABSENT;
            }
            int at = end;
            for (int i = length - 1; i > k && at > 0; i--) {
                at = origin[at];
            }
            return tipTo[at];
        }

        private int endOf(int set) {
            int end = set < 0 || set >= SETS ? NONE : ends[set];
            if (end == NONE) {
                return isOverfull ? UNKNOWN : ABSENT;
            }
            return end;
        }

        private void begin(State now, int lake) {
            trial.copyFrom(now);
            trial.water[0] = lake;
            Arrays.fill(slots, 0);
            Arrays.fill(ends, NONE);
            size = 0;
            heapSize = 0;
            isOverfull = false;
            reach(0, 0, 0);
        }

        private void load(int situation) {
            trial.unpackPlaces(places[situation]);
            trial.unpackWater(0, upperWater[situation]);
            trial.unpackWater(State.LEVELS_IN_LONG, lowerWater[situation]);
        }

        private void noteEnds(int situation, int home) {
            if (ends[home] != NONE) {
                return;
            }
            for (int set = 0; set < SETS; set++) {
                if ((set & home) == set && ends[set] == NONE) {
                    ends[set] = situation;
                }
            }
        }

        private void spread(int situation, Rule rule, boolean byWater) {
            int found = trial.gatherTips(rule, tipsFound, tipsFound.length);
            for (int i = 0; i < found && !isOverfull; i++) {
                int tip = tipsFound[i];
                int down = State.downOf(tip);
                int up = State.upOf(tip);
                int more = byWater ? trial.need(down, up) : trial.worth(down, up);
                trial.doTip(tip);
                reach(situation, tip, cost[situation] + more);
                trial.undoTip(tip);
            }
        }

        /** The trial's situation comes, or is had with less. */
        private void reach(int from, int tip, int newCost) {
            int slot = slotOfTrial();
            int known = slots[slot] - 1;
            if (known < 0 && size >= MOST) {
                isOverfull = true;
                return;
            }
            if (known < 0) {
                known = addTrial(slot);
            } else if (heapPlace[known] == GONE_THROUGH || newCost >= cost[known]) {
                return;
            }
            cost[known] = newCost;
            origin[known] = from;
            tipTo[known] = tip;
            rise(heapPlace[known]);
        }

        private int addTrial(int slot) {
            int added = size;
            size++;
            slots[slot] = size;
            places[added] = trial.packedPlaces();
            upperWater[added] = trial.packedWater(0);
            lowerWater[added] = trial.packedWater(State.LEVELS_IN_LONG);
            putInHeap(heapSize, added);
            heapSize++;
            return added;
        }

        /** The slot that the trial's situation has, or the free one that it would have. */
        private int slotOfTrial() {
            int place = trial.packedPlaces();
            long upper = trial.packedWater(0);
            long lower = trial.packedWater(State.LEVELS_IN_LONG);
            long mixed = ((upper * 31 + lower) * 31 + place) * -7046029254386353131L;
            int slot = (int) (mixed >>> SLOT_SHIFT);
            // there are more slots than situations, so that a free one ends this
            for (int i = 0; i < SLOTS && slots[slot] != 0; i++) {
                int other = slots[slot] - 1;
                if (places[other] == place && upperWater[other] == upper && lowerWater[other] == lower) {
                    return slot;
                }
                slot = (slot + 1) % SLOTS;
            }
            return slot;
        }

        private int takeLeast() {
            int least = heap[0];
            heapPlace[least] = GONE_THROUGH;
            heapSize--;
            if (heapSize > 0) {
                sink(heap[heapSize]);
            }
            return least;
        }

        private boolean isAhead(int a, int b) {
            return cost[a] < cost[b] || cost[a] == cost[b] && a < b;
        }

        private void putInHeap(int place, int situation) {
            heap[place] = situation;
            heapPlace[situation] = place;
        }

        private void rise(int from) {
            int moving = heap[from];
            int place = from;
            while (place > 0 && isAhead(moving, heap[(place - 1) / 2])) {
                putInHeap(place, heap[(place - 1) / 2]);
                place = (place - 1) / 2;
            }
            putInHeap(place, moving);
        }

        private void sink(int moving) {
            int place = 0;
            for (int child = 1; child < heapSize; child = 2 * place + 1) {
                int lesser = child;
                if (child + 1 < heapSize && isAhead(heap[child + 1], heap[child])) {
                    lesser = child + 1;
                }
                if (!isAhead(heap[lesser], moving)) {
                    break;
                }
                putInHeap(place, heap[lesser]);
                place = lesser;
            }
            putInHeap(place, moving);
        }
    }

    /** What the water that was seen tells: rows of tips that went by, and a weight that was smuggled. */
    private static final class Dusk {
        static final int MOST_ROWS = 30000;

        final State trial;
        final int[][] options = new int[MOST_WENT][16];
        final int[] chosen = new int[MOST_WENT];
        final int[] first = new int[MOST_WENT];
        int rows = 0;
        int pairs = 0;
        int firstBarge = 0;
        int firstExtra = 0;

        Dusk(State trial) {
            this.trial = trial;
        }

        int countRows(State now, Rule rule, int n, int most) {
            trial.copyFrom(now);
            rows = 0;
            follow(rule, 0, Math.min(n, MOST_WENT), most);
            return rows;
        }

        private void follow(Rule rule, int depth, int n, int most) {
            if (depth < 0 || depth >= n || depth >= MOST_WENT) {
                noteRow();
                return;
            }
            int[] tips = options[depth];
            int found = trial.gatherTips(rule, tips, tips.length);
            for (int i = 0; i < found && rows < most; i++) {
                chosen[depth] = tips[i];
                trial.doTip(tips[i]);
                follow(rule, depth + 1, n, most);
                trial.undoTip(tips[i]);
            }
        }

        private void noteRow() {
            if (!trial.isAsSeen()) {
                return;
            }
            if (rows == 0) {
                System.arraycopy(chosen, 0, first, 0, MOST_WENT);
            }
            rows++;
        }

        void searchSmuggled(State now) {
            pairs = 0;
            for (int barge = 0; barge < now.barges && barge < MOST_BARGES; barge++) {
                for (int extra = 1; extra <= MOST_EXTRA; extra++) {
                    if (isTold(now, barge, extra)) {
                        notePair(barge, extra);
                    }
                }
            }
        }

        private boolean isTold(State now, int barge, int extra) {
            trial.copyFrom(now);
            trial.weight[barge] += extra;
            for (int i = 0; i < trial.booked && i < MOST_BOOKED; i++) {
                trial.pour(trial.bookTips[i], 1);
            }
            return trial.isAsSeen();
        }

        private void notePair(int barge, int extra) {
            if (pairs == 0) {
                firstBarge = barge;
                firstExtra = extra;
            }
            pairs++;
        }
    }
}
