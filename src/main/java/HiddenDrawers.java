import java.util.Arrays;

/**
 * A desk with hidden drawers: parts pushed and tilted by told laws, searches over what can be done,
 * trials that tell laws apart, hollows, carts, and an image. DOC.md says what each call promises.
 */
public final class HiddenDrawers {
    public static final int NONE = -1;
    public static final int SPENT = -2;

    private static final int PARTS = 6;
    private static final int PLACES = 3;
    private static final int TILTS = 3;
    private static final int ACTS = 15;
    private static final int FIRST_TILT_ACT = 12;
    private static final int LAST_BALL_PLACE = 9;
    private static final int LOUDEST = 9;
    private static final int STEPS = 30;
    private static final int TEXTS = 4;
    private static final int TAPE = 300;
    private static final int FED = 20;
    private static final int CLAUSES = 24;
    private static final int TRIALS = 12;
    private static final int HOLLOWS = 10;
    private static final int OTHERS = -2;
    private static final int FEWEST_STANDINGS = 1000;
    private static final int WHATEVER_STANDINGS = 3000;

    // A standing is one number: the PLACES in base 3, PART 0 lowest, and TILT above them.
    private static final int TILT_WEIGHT = 729;
    private static final int STANDINGS = 2187;

    // The expressions that a TEXT can have: 0 .. 5 are the when of each PART.
    private static final int SOUND_RULE = 6;
    private static final int OPEN_RULE = 7;
    private static final int STOPS_RULE = 8;
    private static final int RULES = 9;

    // What a token is. Operators stand last, so that one comparison tells them.
    private static final int END_OF_TAPE = 0;
    private static final int NO_TOKEN = 1;
    private static final int NUMBER = 2;
    private static final int SEMICOLON = 3;
    private static final int TO = 4;
    private static final int SET = 5;
    private static final int WHEN = 6;
    private static final int WITH = 7;
    private static final int SOUND = 8;
    private static final int OPEN = 9;
    private static final int STOPS = 10;
    private static final int DO = 11;
    private static final int NAME_A = 12;
    private static final int TILT = 18;
    private static final int ON = 19;
    private static final int PART = 20;
    private static final int AT = 21;
    private static final int OR = 22;
    private static final int AND = 23;
    private static final int NOT = 24;
    private static final int LESS = 25;
    private static final int AT_MOST = 26;
    private static final int MORE = 27;
    private static final int AT_LEAST = 28;
    private static final int SAME = 29;
    private static final int UNLIKE = 30;
    private static final int PLUS = 31;
    private static final int MINUS = 32;
    private static final int TIMES = 33;
    private static final int OVER = 34;
    private static final int NEGATE = 35;
    private static final int BRACKET = 36;
    private static final int BRACKET_END = 37;

    private static final int NAMES = 10;
    private static final int MOST_NUMBER = 9999;
    private static final int MOST_VALUE = 1000000;
    private static final int MOST_NESTED = 8;
    // In a rule's code a number is itself, and a token that is none lies above all numbers.
    private static final int SIGNS = 10000;

    private static final int CANNOT_STAND = 1;
    private static final int NOT_TOLD = 2;
    private static final int TOO_DEEP = 3;
    private static final int TWICE = 4;
    private static final int WRONG_NAME = 5;
    private static final int TOO_MANY = 6;

    // What the search's latest outcome is of: a set of TEXTS above 0, or one of these.
    private static final int NOTHING = -1;
    private static final int FROM_NOW = 0;

    private final byte[] tape;
    private int tapeLength;
    private int faultKind;
    private int faultPlace;
    private final Desk desk;
    private final Desk kept;
    private final Law[] laws;
    private final Law lawless;
    private final Reader reader;
    private final Rules rules;
    private final Search search;
    private final DeadEnds deadEnds;
    private final int[] triedEnds;
    private int searched;

    public HiddenDrawers() {
        tape = new byte[TAPE];
        faultKind = NONE;
        faultPlace = NONE;
        desk = new Desk();
        kept = new Desk();
        laws = new Law[TEXTS];
        for (int i = 0; i < laws.length; i++) {
            laws[i] = new Law();
        }
        lawless = new Law();
        reader = new Reader();
        rules = new Rules(desk.sizes);
        search = new Search(rules, lawless);
        deadEnds = new DeadEnds(rules);
        triedEnds = new int[TEXTS];
        searched = NOTHING;
    }

    public int part(int places) {
        if (places < 2 || places > PLACES || desk.parts >= PARTS) {
            return NONE;
        }
        desk.sizes[desk.parts] = places;
        desk.parts++;
        searched = NOTHING;
        return desk.parts - 1;
    }

    public int feed(int a, int b, int c, int d, int e) {
        if (tapeLength + FED > TAPE) {
            return NONE;
        }
        putFour(a);
        putFour(b);
        putFour(c);
        putFour(d);
        putFour(e);
        return tapeLength;
    }

    private void putFour(int bytes) {
        for (int shift = 24; shift >= 0; shift -= 8) {
            if (tapeLength < tape.length) {
                tape[tapeLength] = (byte) (bytes >> shift);
                tapeLength++;
            }
        }
    }

    public int end(int n) {
        if (n < 0 || n > tapeLength) {
            return NONE;
        }
        tapeLength = n;
        return n;
    }

    public int text() {
        if (desk.texts >= TEXTS) {
            return NONE;
        }
        faultKind = reader.read(tape, tapeLength, laws[desk.texts]);
        faultPlace = reader.faultPlace;
        tapeLength = 0;
        if (faultKind != 0) {
            return NONE;
        }
        desk.texts++;
        searched = NOTHING;
        return desk.texts - 1;
    }

    public int fault(int what) {
        if (what == 0) {
            return faultKind;
        }
        return what == 1 ? faultPlace : NONE;
    }

    public boolean by(int text) {
        if (text != NONE && !isText(text)) {
            return false;
        }
        desk.ruling = text;
        searched = NOTHING;
        return true;
    }

    private boolean isText(int text) {
        return text >= 0 && text < desk.texts && text < laws.length;
    }

    private Law rulingLaw() {
        return isText(desk.ruling) ? laws[desk.ruling] : lawless;
    }

    public boolean can(int act) {
        return rules.standingAfter(rulingLaw(), act, desk.standing) != NONE;
    }

    public int act(int act) {
        int standing = desk.standing;
        int ball = desk.ball;
        int heard = move(act);
        if (heard != NONE) {
            desk.addStep(standing, ball);
        }
        return heard;
    }

    private int move(int act) {
        Law law = rulingLaw();
        int after = rules.standingAfter(law, act, desk.standing);
        if (after == NONE) {
            return NONE;
        }
        int heard = rules.heardOf(law, act, desk.standing, after);
        desk.standing = after;
        desk.ball = rules.ballAfter(law, after, desk.ball);
        searched = NOTHING;
        return heard;
    }

    public int played(int text) {
        if (!isText(text)) {
            return OTHERS;
        }
        Law law = laws[text];
        for (int i = 0; i < law.dos && i < CLAUSES; i++) {
            if (act(law.doActs[i]) == NONE) {
                return law.doClauses[i];
            }
        }
        return NONE;
    }

    public int carts(int seed, int n) {
        if (seed < 0 || seed > 9999 || n < 1 || n > 99) {
            return NONE;
        }
        desk.addStep(desk.standing, desk.ball);
        int draw = seed * 9 + 4;
        int done = 0;
        for (int i = 0; i < n; i++) {
            if (move(FIRST_TILT_ACT + draw % TILTS) != NONE) {
                done++;
            }
            draw = (draw * 211 + 91) % 30137;
        }
        return done;
    }

    public int undo() {
        if (!desk.takeStepBack()) {
            return NONE;
        }
        searched = NOTHING;
        return desk.steps;
    }

    public int place(int part) {
        return part >= 0 && part < desk.parts ? placeIn(desk.standing, part) : NONE;
    }

    public int now(int what) {
        switch (what) {
            case 0:
                return desk.standing / TILT_WEIGHT;
            case 1:
                return desk.ball;
            case 2:
                return rules.isOpen(rulingLaw(), desk.standing) ? 1 : 0;
            default:
                return NONE;
        }
    }

    public int fewest(int i) {
        if (i < NONE) {
            return NONE;
        }
        if (searched != FROM_NOW) {
            Law law = rulingLaw();
            search.seek(law, law, desk.standing, FEWEST_STANDINGS);
            searched = FROM_NOW;
        }
        return search.answerOf(i);
    }

    public int forever() {
        return deadEnds.actsInto(rulingLaw(), desk.standing);
    }

    public int tried(int act, int heard) {
        if (act < 0 || act >= ACTS || heard < NONE || heard > LOUDEST || desk.trials >= TRIALS) {
            return NONE;
        }
        desk.triedActs[desk.trials] = act;
        desk.triedHeard[desk.trials] = heard;
        desk.trials++;
        return desk.trials;
    }

    public int forget() {
        int trials = desk.trials;
        desk.trials = 0;
        return trials;
    }

    public int fits() {
        int fitting = 0;
        for (int text = 0; text < TEXTS; text++) {
            if (standingBehindTrials(text) != NONE) {
                fitting |= 1 << text;
            }
        }
        return fitting;
    }

    /** NONE, if by this TEXT not all that was TRIED is so. */
    private int standingBehindTrials(int text) {
        if (!isText(text)) {
            return NONE;
        }
        int standing = 0;
        for (int i = 0; i < desk.trials && i < TRIALS; i++) {
            int act = desk.triedActs[i];
            if (answerTo(laws[text], act, standing) != desk.triedHeard[i]) {
                return NONE;
            }
            standing = rules.standingOrSame(laws[text], act, standing);
        }
        return standing;
    }

    private int answerTo(Law law, int act, int standing) {
        int after = rules.standingAfter(law, act, standing);
        return after == NONE ? NONE : rules.heardOf(law, act, standing, after);
    }

    public int next() {
        int fitting = 0;
        for (int text = 0; text < TEXTS; text++) {
            triedEnds[text] = standingBehindTrials(text);
            fitting += triedEnds[text] != NONE ? 1 : 0;
        }
        int best = NONE;
        int fewestAlike = TEXTS + 1;
        for (int act = 0; act < ACTS && fitting > 0; act++) {
            int alike = mostAlike(act);
            if (alike < fewestAlike) {
                fewestAlike = alike;
                best = act;
            }
        }
        return best;
    }

    private int mostAlike(int act) {
        int most = 0;
        for (int text = 0; text < TEXTS; text++) {
            if (triedEnds[text] != NONE) {
                int answer = answerTo(laws[text], act, triedEnds[text]);
                int alike = 0;
                for (int other = 0; other <= text; other++) {
                    boolean fitting = triedEnds[other] != NONE;
                    alike += fitting && answerTo(laws[other], act, triedEnds[other]) == answer ? 1 : 0;
                }
                most = Math.max(most, alike);
            }
        }
        return most;
    }

    public int whatever(int texts, int i) {
        if (i < NONE || texts <= 0 || texts >= 1 << desk.texts || Integer.bitCount(texts) > 2) {
            return NONE;
        }
        if (searched != texts) {
            int low = TEXTS - 1;
            int high = 0;
            for (int text = 0; text < TEXTS; text++) {
                if ((texts >> text & 1) == 1) {
                    low = Math.min(low, text);
                    high = Math.max(high, text);
                }
            }
            search.seek(laws[low], laws[high], 0, WHATEVER_STANDINGS);
            searched = texts;
        }
        return search.answerOf(i);
    }

    public int hollow(int size) {
        if (size < 1 || size > 99 || desk.hollows >= HOLLOWS) {
            return NONE;
        }
        desk.hollowSizes[desk.hollows] = size;
        desk.hollows++;
        return desk.hollows;
    }

    public int measure(int all, int i) {
        if (all < 1 || all > 999 || i < NONE) {
            return NONE;
        }
        int count = 0;
        for (int set = 1; set < 1 << desk.hollows; set++) {
            if (desk.sizeOfHollows(set) == all) {
                if (count == i) {
                    return set;
                }
                count++;
            }
        }
        return i == NONE ? count : NONE;
    }

    public int image() {
        kept.copyFrom(desk);
        return desk.parts;
    }

    public int back() {
        desk.copyFrom(kept);
        searched = NOTHING;
        return desk.parts;
    }

    public int about(int what) {
        if (what >= 10 && what < 10 + desk.parts) {
            return desk.sizes[what - 10];
        }
        if (what >= 20 && what < 20 + desk.hollows) {
            return desk.hollowSizes[what - 20];
        }
        switch (what) {
            case 0:
                return desk.parts;
            case 1:
                return desk.texts;
            case 2:
                return desk.ruling;
            case 3:
                return desk.steps;
            case 4:
                return desk.trials;
            case 5:
                return desk.hollows;
            case 6:
                return tapeLength;
            default:
                return OTHERS;
        }
    }

    private static int placeIn(int standing, int part) {
        int rest = standing;
        for (int i = 0; i < part && i < PARTS; i++) {
            rest /= PLACES;
        }
        return rest % PLACES;
    }

    /**
     * All that an image keeps. Of the TEXTS it has only how many there are: those that an image
     * counts are never written again while it is THE IMAGE, as TEXTS only come behind them.
     */
    private static final class Desk {
        final int[] sizes = new int[PARTS];
        int parts;
        int standing;
        int ball;
        int texts;
        int ruling = NONE;
        final int[] stepStandings = new int[STEPS];
        final int[] stepBalls = new int[STEPS];
        int steps;
        final int[] triedActs = new int[TRIALS];
        final int[] triedHeard = new int[TRIALS];
        int trials;
        final int[] hollowSizes = new int[HOLLOWS];
        int hollows;

        void copyFrom(Desk other) {
            copyRow(other.sizes, sizes);
            parts = other.parts;
            standing = other.standing;
            ball = other.ball;
            texts = other.texts;
            ruling = other.ruling;
            copyRow(other.stepStandings, stepStandings);
            copyRow(other.stepBalls, stepBalls);
            steps = other.steps;
            copyRow(other.triedActs, triedActs);
            copyRow(other.triedHeard, triedHeard);
            trials = other.trials;
            copyRow(other.hollowSizes, hollowSizes);
            hollows = other.hollows;
        }

        private static void copyRow(int[] from, int[] to) {
            System.arraycopy(from, 0, to, 0, Math.min(from.length, to.length));
        }

        /** PARTS told later stand at 0 in what is kept here, as the document asks of them. */
        void addStep(int standingAhead, int ballAhead) {
            if (steps >= STEPS) {
                System.arraycopy(stepStandings, 1, stepStandings, 0, STEPS - 1);
                System.arraycopy(stepBalls, 1, stepBalls, 0, STEPS - 1);
                steps = STEPS - 1;
            }
            stepStandings[steps] = standingAhead;
            stepBalls[steps] = ballAhead;
            steps++;
        }

        boolean takeStepBack() {
            if (steps <= 0) {
                return false;
            }
            steps--;
            standing = stepStandings[steps];
            ball = stepBalls[steps];
            return true;
        }

        int sizeOfHollows(int set) {
            int size = 0;
            for (int i = 0; i < hollows && i < HOLLOWS; i++) {
                size += (set >> i & 1) * hollowSizes[i];
            }
            return size;
        }
    }

    /** A TEXT that was read. */
    private static final class Law {
        // The code of all rules, one behind the other, operators behind what they join.
        final int[] code = new int[TAPE];
        int codeLength;
        final int[] ruleStarts = new int[RULES];
        final int[] ruleEnds = new int[RULES];
        final int[] setCauses = new int[CLAUSES];
        final int[] setParts = new int[CLAUSES];
        final int[] setPlaces = new int[CLAUSES];
        int sets;
        final int[] doActs = new int[CLAUSES];
        final int[] doClauses = new int[CLAUSES];
        int dos;

        Law() {
            Arrays.fill(ruleStarts, NONE);
        }

        void clear() {
            Arrays.fill(ruleStarts, NONE);
            codeLength = 0;
            sets = 0;
            dos = 0;
        }

        boolean has(int rule) {
            return rule >= 0 && rule < RULES && ruleStarts[rule] != NONE;
        }

        void addCode(int sign) {
            if (codeLength < code.length) {
                code[codeLength] = sign;
                codeLength++;
            }
        }

        void addSet(int cause, int part, int place) {
            if (sets < CLAUSES) {
                setCauses[sets] = cause;
                setParts[sets] = part;
                setPlaces[sets] = place;
                sets++;
            }
        }

        void addDo(int act, int clause) {
            if (dos < CLAUSES) {
                doActs[dos] = act;
                doClauses[dos] = clause;
                dos++;
            }
        }
    }

    // A push and a tilt that sets are known by one number, so that one row holds both in order.
    private static int causeOfPush(int part, int place) {
        return part * PLACES + place;
    }

    private static int causeOfTilt(int tilt) {
        return PARTS * PLACES + tilt;
    }

    /** The tokens of a tape: found all at first, then come to one by one. */
    private static final class Tokens {
        private final int[] kinds = new int[TAPE + 1];
        private final int[] values = new int[TAPE + 1];
        private final int[] starts = new int[TAPE + 1];
        private int count;
        private int come;
        private byte[] bytes = new byte[0];
        private int length;
        private int at;
        int kind;
        int value;
        int start;

        void find(byte[] tapeBytes, int tapeLength) {
            bytes = tapeBytes;
            length = Math.min(Math.min(tapeBytes.length, tapeLength), TAPE);
            at = 0;
            count = 0;
            come = 0;
            for (int i = 0; i < TAPE && at < length; i++) {
                if (bytes[at] == ' ' || bytes[at] == '\n') {
                    at++;
                } else {
                    findOne(bytes[at]);
                }
            }
            start = length;
            add(END_OF_TAPE, 0);
        }

        /** Behind the end of the tape it is come to again and again. */
        void advance() {
            int index = Math.min(come, count - 1);
            if (index >= 0 && index < kinds.length) {
                kind = kinds[index];
                value = values[index];
                start = starts[index];
                come = index + 1;
            }
        }

        private void add(int tokenKind, int tokenValue) {
            if (count < kinds.length) {
                kinds[count] = tokenKind;
                values[count] = tokenValue;
                starts[count] = start;
                count++;
            }
        }

        private void findOne(int sign) {
            start = at;
            at++;
            if (isLetter(sign)) {
                while (at < length && isLetter(bytes[at])) {
                    at++;
                }
                add(at - start == 1 ? kindOfLetter(sign) : kindOfWord(), 0);
            } else if (isDigit(sign)) {
                findNumber(sign);
            } else {
                findSign(sign);
            }
        }

        private static boolean isLetter(int sign) {
            return sign >= 'a' && sign <= 'z' || sign >= 'A' && sign <= 'Z';
        }

        private static boolean isDigit(int sign) {
            return sign >= '0' && sign <= '9';
        }

        private void findNumber(int digit) {
            int number = digit - '0';
            for (; at < length && isDigit(bytes[at]); at++) {
                // Held just above all numbers, so that a long row of digits doesn't wrap around.
                number = Math.min(number * 10 + bytes[at] - '0', MOST_NUMBER + 1);
            }
            add(NUMBER, number);
        }

        private void findSign(int sign) {
            boolean longer = at < length && bytes[at] == '=';
            if (longer && (sign == '<' || sign == '>')) {
                at++;
                add(sign == '<' ? AT_MOST : AT_LEAST, 0);
            } else {
                add(kindOfSign(sign), 0);
            }
        }

        private static int kindOfLetter(int letter) {
            return letter >= 'a' && letter <= 'f' ? NAME_A + letter - 'a' : NO_TOKEN;
        }

        private int kindOfWord() {
            if (isWord("tilt")) return TILT;
            if (isWord("on")) return ON;
            if (isWord("part")) return PART;
            if (isWord("at")) return AT;
            if (isWord("or")) return OR;
            if (isWord("and")) return AND;
            if (isWord("not")) return NOT;
            if (isWord("when")) return WHEN;
            if (isWord("with")) return WITH;
            if (isWord("to")) return TO;
            if (isWord("set")) return SET;
            if (isWord("sound")) return SOUND;
            if (isWord("open")) return OPEN;
            if (isWord("stops")) return STOPS;
            if (isWord("do")) return DO;
            return NO_TOKEN;
        }

        private boolean isWord(String word) {
            if (at - start != word.length()) {
                return false;
            }
            for (int i = 0; i < word.length() && start + i < length; i++) {
                if (bytes[start + i] != word.charAt(i)) {
                    return false;
                }
            }
            return true;
        }

        private static int kindOfSign(int sign) {
            switch (sign) {
                case '<':
                    return LESS;
                case '>':
                    return MORE;
                case '=':
                    return SAME;
                case '#':
                    return UNLIKE;
                case '+':
                    return PLUS;
                case '-':
                    return MINUS;
                case '*':
                    return TIMES;
                case '/':
                    return OVER;
                case '(':
                    return BRACKET;
                case ')':
                    return BRACKET_END;
                case ';':
                    return SEMICOLON;
                default:
                    return NO_TOKEN;
            }
        }
    }

    /** Reads a tape as a TEXT, up to its first FAULT. */
    private static final class Reader {
        private final Tokens tokens = new Tokens();
        private Law law = new Law();
        private int fault;
        int faultPlace;
        // Operators that wait for what stands to their right.
        private final int[] waiting = new int[TAPE];
        private int waitingCount;
        private int nested;
        private int brackets;
        private boolean wantsOne;
        private boolean atAsk;
        private boolean compared;
        private boolean ended;

        /** The FAULT's kind, 0 without one. */
        int read(byte[] tapeBytes, int tapeLength, Law into) {
            law = into;
            law.clear();
            fault = 0;
            faultPlace = NONE;
            tokens.find(tapeBytes, tapeLength);
            tokens.advance();
            for (int clause = 0; clause <= CLAUSES && fault == 0 && tokens.kind != END_OF_TAPE; clause++) {
                readClause(clause);
                tokens.advance();
            }
            return fault;
        }

        private void blame(int kind) {
            if (fault == 0) {
                fault = kind;
                faultPlace = tokens.start;
            }
        }

        private void readClause(int clause) {
            int word = tokens.kind;
            boolean single = word == SOUND || word == OPEN || word == STOPS;
            int rule = single ? SOUND_RULE + word - SOUND : NONE;
            if (!single && word != WHEN && word != WITH && word != TILT && word != DO) {
                blame(CANNOT_STAND);
            } else if (law.has(rule)) {
                blame(TWICE);
            } else if (clause >= CLAUSES) {
                blame(TOO_MANY);
            } else if (single) {
                readRule(rule);
            } else if (word == WHEN) {
                readRule(takeWhenPart());
            } else if (word == DO) {
                law.addDo(takeNumber(ACTS - 1), clause);
                takeToken(SEMICOLON);
            } else {
                readSet(word);
            }
        }

        private int takeWhenPart() {
            int part = takeNumber(PARTS - 1);
            if (fault == 0 && law.has(part)) {
                blame(TWICE);
            }
            return part;
        }

        private void readSet(int word) {
            int cause;
            if (word == WITH) {
                int pushed = takeNumber(PARTS - 1);
                takeToken(TO);
                cause = causeOfPush(pushed, takeNumber(PLACES - 1));
            } else {
                cause = causeOfTilt(takeNumber(TILTS - 1));
            }
            takeToken(SET);
            int part = takeNumber(PARTS - 1);
            takeToken(TO);
            int place = takeNumber(PLACES - 1);
            takeToken(SEMICOLON);
            if (fault == 0) {
                law.addSet(cause, part, place);
            }
        }

        // Behind a FAULT no token is taken, so that the first stays.
        private int takeNumber(int most) {
            takeToken(NUMBER);
            if (fault == 0 && tokens.value > most) {
                blame(NOT_TOLD);
            }
            return fault == 0 ? tokens.value : 0;
        }

        private void takeToken(int kind) {
            if (fault == 0) {
                tokens.advance();
                if (tokens.kind != kind) {
                    blame(CANNOT_STAND);
                }
            }
        }

        private void readRule(int rule) {
            if (fault != 0 || rule < 0 || rule >= RULES) {
                return;
            }
            law.ruleStarts[rule] = law.codeLength;
            waitingCount = 0;
            nested = 0;
            brackets = 0;
            wantsOne = true;
            atAsk = rule != SOUND_RULE;
            compared = false;
            ended = false;
            for (int i = 0; i <= TAPE && fault == 0 && !ended; i++) {
                tokens.advance();
                if (wantsOne) {
                    takeOne(rule);
                } else {
                    takeOperator(rule);
                }
            }
            law.ruleEnds[rule] = law.codeLength;
        }

        private void takeOne(int rule) {
            int kind = tokens.kind;
            if (kind == NUMBER) {
                addOne(tokens.value, tokens.value <= MOST_NUMBER ? 0 : NOT_TOLD);
            } else if (kind >= NAME_A && kind <= AT) {
                addOne(SIGNS + kind, isNameOf(rule, kind) ? 0 : WRONG_NAME);
            } else if (kind == BRACKET) {
                nestIn(BRACKET);
                brackets++;
            } else if (kind == MINUS) {
                nestIn(NEGATE);
            } else if (kind == NOT && atAsk) {
                nestIn(NOT);
            } else {
                blame(CANNOT_STAND);
            }
            atAsk = atAsk && kind == NOT;
        }

        private void addOne(int sign, int wrong) {
            if (wrong != 0) {
                blame(wrong);
            }
            law.addCode(sign);
            wantsOne = false;
        }

        private static boolean isNameOf(int rule, int name) {
            switch (name) {
                case ON:
                    return rule <= SOUND_RULE;
                case PART:
                    return rule == SOUND_RULE;
                case AT:
                    return rule == STOPS_RULE;
                default:
                    return true;
            }
        }

        private void nestIn(int operator) {
            if (nested >= MOST_NESTED) {
                blame(TOO_DEEP);
            }
            nested++;
            putToWait(operator);
        }

        private void putToWait(int operator) {
            if (waitingCount < waiting.length) {
                waiting[waitingCount] = operator;
                waitingCount++;
            }
        }

        private void takeOperator(int rule) {
            int kind = tokens.kind;
            boolean asking = rule != SOUND_RULE && brackets == 0;
            if (kind >= PLUS && kind <= OVER) {
                join(kind);
            } else if (kind >= LESS && kind <= UNLIKE && asking && !compared) {
                join(kind);
                compared = true;
            } else if ((kind == AND || kind == OR) && asking && compared) {
                join(kind);
                compared = false;
                atAsk = true;
            } else if (kind == BRACKET_END && brackets > 0) {
                closeBracket();
            } else if (kind == SEMICOLON && brackets == 0 && (compared || rule == SOUND_RULE)) {
                release(1);
                ended = true;
            } else {
                blame(CANNOT_STAND);
            }
        }

        private void join(int operator) {
            release(strengthOf(operator));
            putToWait(operator);
            wantsOne = true;
        }

        private void closeBracket() {
            release(1);
            // A bracket is weaker than all else, so it is what waits last now.
            waitingCount = Math.max(waitingCount - 1, 0);
            brackets--;
            nested--;
        }

        private void release(int strength) {
            while (waitingCount > 0 && strengthOf(waiting[waitingCount - 1]) >= strength) {
                waitingCount--;
                int operator = waiting[waitingCount];
                law.addCode(SIGNS + operator);
                if (operator == NOT || operator == NEGATE) {
                    nested--;
                }
            }
        }

        private static int strengthOf(int operator) {
            switch (operator) {
                case BRACKET:
                    return 0;
                case OR:
                    return 1;
                case AND:
                    return 2;
                case NOT:
                    return 3;
                case PLUS:
                case MINUS:
                    return 5;
                case TIMES:
                case OVER:
                    return 6;
                case NEGATE:
                    return 7;
                default:
                    return 4;
            }
        }
    }

    /** What a law makes of acts and standings. */
    private static final class Rules {
        // Eight brackets, each with a sum and a product half done, need far less.
        private static final int STACK = 64;
        private static final int TILT_NAME = TILT - NAME_A;
        private static final int ON_NAME = ON - NAME_A;
        private static final int PART_NAME = PART - NAME_A;
        private static final int AT_NAME = AT - NAME_A;

        private final int[] sizes;
        private final int[] names = new int[NAMES];
        // The standing that the names show: searches ask of one standing many times.
        private int shown;
        private final int[] stack = new int[STACK];

        Rules(int[] partSizes) {
            sizes = partSizes;
        }

        private void show(int standing) {
            if (standing == shown) {
                return;
            }
            shown = standing;
            int rest = standing;
            for (int part = 0; part < PARTS; part++) {
                names[part] = rest % PLACES;
                rest /= PLACES;
            }
            names[TILT_NAME] = rest;
        }

        private int gather() {
            int standing = names[TILT_NAME];
            for (int part = PARTS - 1; part >= 0; part--) {
                standing = standing * PLACES + names[part];
            }
            shown = standing;
            return standing;
        }

        /** NONE, if the act can't be. */
        int standingAfter(Law law, int act, int standing) {
            if (act < 0 || act >= ACTS) {
                return NONE;
            }
            show(standing);
            if (act >= FIRST_TILT_ACT) {
                return tilted(law, act - FIRST_TILT_ACT);
            }
            return pushed(law, act / 2, act % 2);
        }

        int standingOrSame(Law law, int act, int standing) {
            int after = standingAfter(law, act, standing);
            return after == NONE ? standing : after;
        }

        private int tilted(Law law, int tilt) {
            if (names[TILT_NAME] == tilt) {
                return NONE;
            }
            names[TILT_NAME] = tilt;
            setBy(law, causeOfTilt(tilt));
            return gather();
        }

        private int pushed(Law law, int part, int on) {
            int place = names[part] + (on == 1 ? 1 : -1);
            if (!isPlace(part, place)) {
                return NONE;
            }
            names[ON_NAME] = on;
            if (law.has(part) && valueOf(law, part) == 0) {
                return NONE;
            }
            names[part] = place;
            setBy(law, causeOfPush(part, place));
            return gather();
        }

        // A PART that wasn't told has size 0, and so no PLACE.
        private boolean isPlace(int part, int place) {
            return part >= 0 && part < PARTS && place >= 0 && place < sizes[part];
        }

        private void setBy(Law law, int cause) {
            for (int i = 0; i < law.sets && i < CLAUSES; i++) {
                if (law.setCauses[i] == cause && isPlace(law.setParts[i], law.setPlaces[i])) {
                    names[law.setParts[i]] = law.setPlaces[i];
                }
            }
        }

        int heardOf(Law law, int act, int ahead, int after) {
            if (!law.has(SOUND_RULE)) {
                return partsMoved(ahead, after);
            }
            boolean push = act < FIRST_TILT_ACT;
            show(after);
            names[ON_NAME] = push ? act % 2 : 0;
            names[PART_NAME] = push ? act / 2 : NONE;
            return Math.max(0, Math.min(LOUDEST, valueOf(law, SOUND_RULE)));
        }

        private static int partsMoved(int ahead, int after) {
            int moved = 0;
            int from = ahead;
            int to = after;
            for (int part = 0; part < PARTS; part++) {
                moved += from % PLACES != to % PLACES ? 1 : 0;
                from /= PLACES;
                to /= PLACES;
            }
            return moved;
        }

        int ballAfter(Law law, int standing, int ball) {
            show(standing);
            int tilt = names[TILT_NAME];
            int way = tilt == 0 ? 0 : tilt == 1 ? -1 : 1;
            int at = ball;
            for (int i = 0; i < LAST_BALL_PLACE && way != 0; i++) {
                int to = at + way;
                names[AT_NAME] = to;
                if (to < 0 || to > LAST_BALL_PLACE || law.has(STOPS_RULE) && valueOf(law, STOPS_RULE) != 0) {
                    return at;
                }
                at = to;
            }
            return at;
        }

        boolean isOpen(Law law, int standing) {
            if (!law.has(OPEN_RULE)) {
                return false;
            }
            show(standing);
            return valueOf(law, OPEN_RULE) != 0;
        }

        private int valueOf(Law law, int rule) {
            int top = 0;
            int end = law.ruleEnds[rule];
            for (int i = law.ruleStarts[rule]; i < end; i++) {
                int sign = law.code[i] - SIGNS;
                if (sign < OR) {
                    if (top < STACK) {
                        stack[top] = sign < NAME_A ? sign + SIGNS : names[sign - NAME_A];
                        top++;
                    }
                } else if (sign == NOT || sign == NEGATE) {
                    if (top > 0) {
                        stack[top - 1] = sign == NOT ? 1 - stack[top - 1] : -stack[top - 1];
                    }
                } else if (top > 1) {
                    top--;
                    stack[top - 1] = joined(sign, stack[top - 1], stack[top]);
                }
            }
            return top > 0 ? stack[top - 1] : 0;
        }

        // Each side is a million at most, so that a product alone needs a long.
        private static int joined(int operator, int left, int right) {
            long value;
            switch (operator) {
                case OR:
                    return left | right;
                case AND:
                    return left & right;
                case LESS:
                    return left < right ? 1 : 0;
                case AT_MOST:
                    return left <= right ? 1 : 0;
                case MORE:
                    return left > right ? 1 : 0;
                case AT_LEAST:
                    return left >= right ? 1 : 0;
                case SAME:
                    return left == right ? 1 : 0;
                case UNLIKE:
                    return left != right ? 1 : 0;
                case PLUS:
                    value = left + right;
                    break;
                case MINUS:
                    value = left - right;
                    break;
                case TIMES:
                    value = (long) left * right;
                    break;
                default:
                    value = right == 0 ? 0 : left / right;
            }
            return (int) Math.max(-MOST_VALUE, Math.min(MOST_VALUE, value));
        }
    }

    /** The fewest acts until all of one or two laws have it open, as each of them would rule. */
    private static final class Search {
        // More than twice the most standings, so that a free slot is near.
        private static final int SLOTS = 8192;
        private static final int SLOT_SHIFT = 19;
        private static final int SCATTER = 0x9E3779B1;

        private final Rules rules;
        private final int[] firsts = new int[WHATEVER_STANDINGS];
        private final int[] seconds = new int[WHATEVER_STANDINGS];
        private final int[] cameFrom = new int[WHATEVER_STANDINGS];
        private final int[] cameBy = new int[WHATEVER_STANDINGS];
        private final int[] slots = new int[SLOTS];
        private int found;
        private Law first;
        private Law second;
        private int most;
        private int outcome;

        Search(Rules deskRules, Law lawAtFirst) {
            rules = deskRules;
            first = lawAtFirst;
            second = lawAtFirst;
        }

        /** For one law alone it is both the first and the second. */
        void seek(Law firstLaw, Law secondLaw, int start, int mostStandings) {
            first = firstLaw;
            second = secondLaw;
            most = Math.min(mostStandings, WHATEVER_STANDINGS);
            Arrays.fill(slots, 0);
            found = 0;
            outcome = NONE;
            reach(start, start, NONE, NONE);
            for (int i = 0; i < found && i < most && outcome == NONE; i++) {
                for (int act = 0; act < ACTS && outcome == NONE; act++) {
                    int one = rules.standingOrSame(first, act, firsts[i]);
                    int other = first == second ? one : rules.standingOrSame(second, act, seconds[i]);
                    if (one != firsts[i] || other != seconds[i]) {
                        reach(one, other, i, act);
                    }
                }
            }
        }

        private void reach(int one, int other, int from, int act) {
            int slot = slotOf(one, other);
            if (slots[slot] != 0) {
                return;
            }
            // One standing too many ends it even if that one is open.
            if (found >= most) {
                outcome = SPENT;
                return;
            }
            firsts[found] = one;
            seconds[found] = other;
            cameFrom[found] = from;
            cameBy[found] = act;
            found++;
            slots[slot] = found;
            if (rules.isOpen(first, one) && (first == second || rules.isOpen(second, other))) {
                outcome = actsUntil(found - 1);
            }
        }

        private int slotOf(int one, int other) {
            int slot = (one * STANDINGS + other) * SCATTER >>> SLOT_SHIFT;
            for (int i = 0; i < SLOTS; i++) {
                int index = slots[slot] - 1;
                if (index < 0 || firsts[index] == one && seconds[index] == other) {
                    return slot;
                }
                slot = (slot + 1) % SLOTS;
            }
            return slot;
        }

        private int actsUntil(int index) {
            int acts = 0;
            for (int at = index; at > 0 && acts < WHATEVER_STANDINGS; at = cameFrom[at]) {
                acts++;
            }
            return acts;
        }

        /** How many acts (i NONE), or the i-th; what is open was found last. */
        int answerOf(int i) {
            if (i == NONE || outcome < 0) {
                return outcome;
            }
            if (i < 0 || i >= outcome) {
                return NONE;
            }
            int at = found - 1;
            for (int left = outcome - 1; left > i && at > 0; left--) {
                at = cameFrom[at];
            }
            return cameBy[at];
        }
    }

    /** Which acts shut the desk for ever. */
    private static final class DeadEnds {
        private static final int EDGES = STANDINGS * ACTS;
        private static final int UNKNOWN = 0;
        private static final int REACHED = 1;
        private static final int HOPEFUL = 2;

        private final Rules rules;
        private final int[] reached = new int[STANDINGS];
        private int reachedCount;
        private final int[] hopeful = new int[STANDINGS];
        private int hopefulCount;
        private final int[] marks = new int[STANDINGS];
        // The acts that lead to a standing, as a chain: an edge is its standing * ACTS + its act.
        private final int[] lastEdges = new int[STANDINGS];
        private final int[] earlierEdges = new int[EDGES];

        DeadEnds(Rules deskRules) {
            rules = deskRules;
        }

        int actsInto(Law law, int standing) {
            Arrays.fill(marks, UNKNOWN);
            Arrays.fill(lastEdges, NONE);
            reachedCount = 0;
            hopefulCount = 0;
            reach(law, standing);
            for (int i = 0; i < reachedCount && i < STANDINGS; i++) {
                for (int act = 0; act < ACTS; act++) {
                    follow(law, reached[i], act);
                }
            }
            for (int i = 0; i < hopefulCount && i < STANDINGS; i++) {
                hopeWhereItCameFrom(hopeful[i]);
            }
            return hopelessActs(law, standing);
        }

        private void reach(Law law, int standing) {
            if (marks[standing] == UNKNOWN && reachedCount < STANDINGS) {
                marks[standing] = REACHED;
                reached[reachedCount] = standing;
                reachedCount++;
                if (rules.isOpen(law, standing)) {
                    hope(standing);
                }
            }
        }

        private void follow(Law law, int standing, int act) {
            int after = rules.standingAfter(law, act, standing);
            if (after != NONE) {
                int edge = standing * ACTS + act;
                earlierEdges[edge] = lastEdges[after];
                lastEdges[after] = edge;
                reach(law, after);
            }
        }

        private void hope(int standing) {
            if (marks[standing] == REACHED && hopefulCount < STANDINGS) {
                marks[standing] = HOPEFUL;
                hopeful[hopefulCount] = standing;
                hopefulCount++;
            }
        }

        private void hopeWhereItCameFrom(int standing) {
            int edge = lastEdges[standing];
            for (int i = 0; i < EDGES && edge != NONE; i++) {
                hope(edge / ACTS);
                edge = earlierEdges[edge];
            }
        }

        private int hopelessActs(Law law, int standing) {
            int acts = 0;
            for (int act = 0; act < ACTS; act++) {
                int after = rules.standingAfter(law, act, standing);
                if (after != NONE && marks[after] != HOPEFUL) {
                    acts |= 1 << act;
                }
            }
            return acts;
        }
    }
}
