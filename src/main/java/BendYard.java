import java.util.Arrays;

/** A yard where the parts of gondolas are bent by fire and water. */
public final class BendYard {
    private static final int PLANS = 6;
    private static final int MOST_TAPE = 1000;
    private static final int MOST_LETTERS = 8;
    private static final int MOST_DIGITS = 3;
    private static final int FEED_BYTES = 20;
    private static final int MOST_ACTIONS = 60;
    private static final int MOST_LOOPS = 3;
    private static final int MOST_VALUES = 3;
    private static final int MOST_PLANKS = 60;
    private static final int MOST_KNOTS = 8;
    private static final int LEAST_PLANK = 10;
    private static final int WOODS = 4;
    private static final int SORTS = 5;
    private static final int MOST_FRAMES = 4;
    private static final int MOST_SLIPS = 6;
    private static final int MOST_TOLERANCE = 60;
    private static final int MOST_TICKS = 200;
    private static final int KEPT_HULLS = 40;

    // How many things each of the telling calls can be asked for.
    private static final int PLAN_FACTS = 4;
    private static final int PLANK_FACTS = 5;
    private static final int FRAME_FACTS = 3;
    private static final int SLIP_FACTS = 15;
    private static final int BENDS = 3;
    private static final int COUNT_FACTS = 9;
    private static final int HULL_FACTS = 6;
    private static final int FORESEE_FACTS = 4;

    // The words of the steps, in the order in which STEP_WORDS has them.
    private static final int TAKE = 0;
    private static final int GIVE = 1;
    private static final int CUT = 2;
    private static final int WET = 3;
    private static final int HEAT = 4;
    private static final int BEND = 5;
    private static final int HOLD = 6;
    private static final int FIT = 7;
    private static final int TIMES = 8;
    private static final String STEP_WORDS = "take give cut wet heat bend hold fit times";
    private static final String FRAME_WORDS = "bow stern rib side floor";
    private static final String WOOD_WORDS = "oak elm larch fir";

    // The kinds of tokens; a symbol is of the kind of its own byte.
    private static final int STEP = 's';
    private static final int FRAME = 'f';
    private static final int WOOD = 'w';
    private static final int NUMBER = 'n';
    private static final int END = '.';
    private static final int NO_TOKEN = '?';

    // What an action comes to in a tick.
    private static final int GOES_ON = 0;
    private static final int DONE = 1;
    private static final int LOST = 2;

    private final Tape tape = new Tape();
    private final Compiler compiler = new Compiler(tape);
    private final Plan[] plans = new Plan[PLANS];
    private final Yard yard = new Yard();
    private final Yard yardAhead = new Yard();

    public BendYard() {
        for (int i = 0; i < PLANS; i++) {
            plans[i] = new Plan();
        }
    }

    // ---- plans

    public int feed(int a, int b, int c, int d, int e) throws IllegalStateException {
        if (tape.length + FEED_BYTES > MOST_TAPE) {
            throw new IllegalStateException("the tape is full");
        }
        tape.append(a);
        tape.append(b);
        tape.append(c);
        tape.append(d);
        tape.append(e);
        return tape.length;
    }

    public int trim(int n) throws IllegalArgumentException {
        if (n < 0 || n > tape.length) {
            throw new IllegalArgumentException("not so many bytes on the tape");
        }
        tape.length = n;
        return n;
    }

    public int compile(int plan) throws IndexOutOfBoundsException {
        if (!isBelow(plan, PLANS)) {
            throw new IndexOutOfBoundsException("no such plan");
        }
        // Slips build by the plan object that they began with, so a new one takes its place.
        Plan draft = new Plan();
        int error = compiler.formError();
        if (error == 0) {
            error = compiler.goThrough(draft);
        }
        if (error == 0) {
            plans[plan] = draft;
        }
        tape.length = 0;
        return error;
    }

    public int errorAt() {
        return compiler.errorAt;
    }

    public int plan(int plan, int what) throws IndexOutOfBoundsException {
        if (!isBelow(plan, PLANS) || !isBelow(what, PLAN_FACTS)) {
            throw new IndexOutOfBoundsException("no such plan, or nothing to tell");
        }
        return plans[plan].tell(what);
    }

    // ---- wood and frames

    public int addPlank(int wood, int length, int wetness)
            throws IllegalArgumentException, IllegalStateException {
        if (!isBelow(wood, WOODS) || length < LEAST_PLANK || length > 300 || wetness < 0 || wetness > 100) {
            throw new IllegalArgumentException("no such plank can be");
        }
        if (yard.store.size >= MOST_PLANKS) {
            throw new IllegalStateException("too many planks");
        }
        return yard.store.add(wood, length, wetness);
    }

    public int addKnot(int plank, int place)
            throws IndexOutOfBoundsException, IllegalArgumentException, IllegalStateException {
        if (!isBelow(plank, yard.store.size)) {
            throw new IndexOutOfBoundsException("no such plank");
        }
        Plank knotted = yard.store.planks[plank];
        if (!isBelow(place, knotted.length)) {
            throw new IllegalArgumentException("no such place");
        }
        if (knotted.knots >= MOST_KNOTS || knotted.hasKnotAt(place)) {
            throw new IllegalStateException("a knot is there, or too many are");
        }
        knotted.insertKnot(place);
        return knotted.knots;
    }

    public int plank(int plank, int what) throws IndexOutOfBoundsException {
        if (!isBelow(plank, yard.store.size) || !isBelow(what, PLANK_FACTS)) {
            throw new IndexOutOfBoundsException("no such plank, or nothing to tell");
        }
        return yard.store.planks[plank].tell(what);
    }

    public int find(int wood, int length, boolean isPlace) throws IllegalArgumentException {
        if (!isBelow(wood, WOODS) || length < 10 || length > 200) {
            throw new IllegalArgumentException("no such piece can be cut");
        }
        int number = yard.store.plankFor(wood, length);
        if (number < 0 || !isPlace) {
            return number;
        }
        return yard.store.planks[number].clearPlaceFor(length);
    }

    public int addFrame(int sort) throws IllegalArgumentException, IllegalStateException {
        if (!isBelow(sort, SORTS)) {
            throw new IllegalArgumentException("no such sort");
        }
        if (yard.frames[sort] >= MOST_FRAMES) {
            throw new IllegalStateException("too many frames of this sort");
        }
        yard.frames[sort]++;
        yard.free[sort]++;
        return yard.frames[sort];
    }

    public int frames(int sort, int what) throws IndexOutOfBoundsException {
        if (!isBelow(sort, SORTS) || !isBelow(what, FRAME_FACTS)) {
            throw new IndexOutOfBoundsException("no such sort, or nothing to tell");
        }
        return yard.tellFrames(sort, what);
    }

    // ---- slips

    public int addSlip() throws IllegalStateException {
        if (yard.slipCount >= MOST_SLIPS) {
            throw new IllegalStateException("too many slips");
        }
        yard.slipCount++;
        return yard.slipCount - 1;
    }

    public int start(int slip, int plan, int tolerance)
            throws IndexOutOfBoundsException, IllegalArgumentException, IllegalStateException {
        if (!isBelow(slip, yard.slipCount)) {
            throw new IndexOutOfBoundsException("no such slip");
        }
        if (!isBelow(plan, PLANS) || tolerance < 0 || tolerance > MOST_TOLERANCE) {
            throw new IllegalArgumentException("no such plan, or no such tolerance");
        }
        if (plans[plan].actionCount == 0 || yard.slips[slip].builds) {
            throw new IllegalStateException("the plan was not told, or the slip is not idle");
        }
        yard.slips[slip].begin(plans[plan], plan, tolerance, yard.tick);
        return yard.buildingSlips();
    }

    public int lend(int from, int to, int sort)
            throws IndexOutOfBoundsException, IllegalArgumentException, IllegalStateException {
        if (!isBelow(from, yard.slipCount) || !isBelow(to, yard.slipCount)) {
            throw new IndexOutOfBoundsException("no such slip");
        }
        if (from == to || !isBelow(sort, SORTS)) {
            throw new IllegalArgumentException("the same slip, or no such sort");
        }
        Slip lender = yard.slips[from];
        Slip borrower = yard.slips[to];
        if (!lender.holds(sort) || lender.hasLent || borrower.waitsFor != sort) {
            throw new IllegalStateException("this frame cannot be lent so");
        }
        lender.release(sort);
        borrower.receive(sort);
        lender.await(sort, yard.tick, true);
        return yard.waitingSlips();
    }

    public int slip(int slip, int what) throws IndexOutOfBoundsException {
        if (!isBelow(slip, yard.slipCount) || !isBelow(what, SLIP_FACTS)) {
            throw new IndexOutOfBoundsException("no such slip, or nothing to tell");
        }
        return yard.slips[slip].tell(what);
    }

    public int bend(int slip, int index, boolean isTarget) throws IndexOutOfBoundsException {
        if (!isBelow(slip, yard.slipCount) || !isBelow(index, BENDS)) {
            throw new IndexOutOfBoundsException("no such slip, or no such bend");
        }
        Piece piece = yard.slips[slip].piece;
        return isTarget ? piece.targets[index] : piece.bends[index];
    }

    public int stuck() {
        return yard.stuckSlips();
    }

    // ---- ticks

    public int run(int ticks) throws IllegalArgumentException {
        if (ticks < 1 || ticks > MOST_TICKS) {
            throw new IllegalArgumentException("not 1 to 200 ticks");
        }
        int finishedBefore = yard.finished;
        for (int i = 0; i < ticks; i++) {
            yard.passTick();
        }
        return yard.finished - finishedBefore;
    }

    public int count(int what) throws IndexOutOfBoundsException {
        if (!isBelow(what, COUNT_FACTS)) {
            throw new IndexOutOfBoundsException("nothing to tell");
        }
        return yard.tellCount(what);
    }

    public int hull(int index, int what) throws IndexOutOfBoundsException {
        if (!isBelow(index, yard.keptHulls()) || !isBelow(what, HULL_FACTS)) {
            throw new IndexOutOfBoundsException("no such hull, or nothing to tell");
        }
        return yard.hulls[index][what];
    }

    public int foresee(int ticks, int what) throws IllegalArgumentException, IndexOutOfBoundsException {
        if (ticks < 1 || ticks > MOST_TICKS) {
            throw new IllegalArgumentException("not 1 to 200 ticks");
        }
        if (!isBelow(what, FORESEE_FACTS)) {
            throw new IndexOutOfBoundsException("nothing to tell");
        }
        yardAhead.copyFrom(yard);
        int firstFinish = -1;
        for (int i = 0; i < ticks; i++) {
            yardAhead.passTick();
            if (firstFinish < 0 && yardAhead.finished > yard.finished) {
                firstFinish = yardAhead.tick;
            }
        }
        switch (what) {
            case 0: return yardAhead.finished - yard.finished;
            case 1: return yardAhead.lost - yard.lost;
            case 2: return yardAhead.stuckSlips();
            default: return firstFinish;
        }
    }

    public double flaw() {
        int flaws = 0;
        int parts = 0;
        for (int i = 0; i < yard.keptHulls(); i++) {
            parts += yard.hulls[i][2];
            flaws += yard.hulls[i][3];
        }
        return parts == 0 ? 0.0 : (double) flaws / parts;
    }

    public long digest() {
        long d = 467;
        for (int what = 0; what < COUNT_FACTS; what++) {
            d = d * 31 + yard.tellCount(what);
        }
        for (int i = 0; i < PLANS; i++) {
            for (int what = 0; what < PLAN_FACTS; what++) {
                d = d * 31 + plans[i].tell(what);
            }
        }
        for (int i = 0; i < yard.store.size; i++) {
            for (int what = 0; what < PLANK_FACTS; what++) {
                d = d * 31 + yard.store.planks[i].tell(what);
            }
        }
        for (int sort = 0; sort < SORTS; sort++) {
            for (int what = 0; what < FRAME_FACTS; what++) {
                d = d * 31 + yard.tellFrames(sort, what);
            }
        }
        for (int i = 0; i < yard.slipCount; i++) {
            d = digestOfSlip(d, yard.slips[i]);
        }
        for (int i = 0; i < yard.keptHulls(); i++) {
            for (int what = 0; what < HULL_FACTS; what++) {
                d = d * 31 + yard.hulls[i][what];
            }
        }
        return d;
    }

    private static long digestOfSlip(long start, Slip slip) {
        long d = start;
        for (int what = 0; what < SLIP_FACTS; what++) {
            d = d * 31 + slip.tell(what);
        }
        for (int i = 0; i < BENDS; i++) {
            d = d * 31 + slip.piece.bends[i];
        }
        for (int i = 0; i < BENDS; i++) {
            d = d * 31 + slip.piece.targets[i];
        }
        return d;
    }

    private static boolean isBelow(int number, int bound) {
        return number >= 0 && number < bound;
    }

    /** What comes of a number that goes towards another one by a step, but not beyond it. */
    private static int nearer(int from, int to, int by) {
        if (Math.abs(to - from) <= by) {
            return to;
        }
        return from < to ? from + by : from - by;
    }

    /** The bytes that were fed and are not compiled yet. */
    private static final class Tape {
        private final byte[] bytes = new byte[MOST_TAPE];
        int length = 0;

        /** Appends the four bytes of a number, as far as there is room. */
        void append(int four) {
            for (int shift = 24; shift >= 0 && length < MOST_TAPE; shift -= 8) {
                bytes[length] = (byte) (four >>> shift);
                length++;
            }
        }

        /** The byte at a place, 0 to 255; -1 where the tape has none. */
        int at(int place) {
            return place >= 0 && place < length ? bytes[place] & 255 : -1;
        }
    }

    /** Reads the tape token by token. */
    private static final class Scanner {
        private final Tape tape;
        private int place = 0;
        int kind = END;
        int start = 0;
        /** What a number is worth, or which of the words of its kind a word is. */
        int value = 0;

        Scanner(Tape tape) {
            this.tape = tape;
        }

        int placeBehind() {
            return place;
        }

        void goTo(int newPlace) {
            place = newPlace;
        }

        void next() {
            while (place < tape.length && isBlank(tape.at(place))) {
                place++;
            }
            start = place;
            value = 0;
            int first = tape.at(place);
            if (first < 0) {
                kind = END;
            } else if (isLetter(first)) {
                readWord();
            } else if (isDigit(first)) {
                readNumber();
            } else {
                kind = isSymbol(first) ? first : NO_TOKEN;
                place++;
            }
        }

        private void readWord() {
            long letters = 0;
            while (place < tape.length && isLetter(tape.at(place))) {
                letters = withLetter(letters, tape.at(place));
                place++;
            }
            if (place - start > MOST_LETTERS) {
                kind = NO_TOKEN;
            } else if (isAmong(STEP_WORDS, letters)) {
                kind = STEP;
            } else if (isAmong(FRAME_WORDS, letters)) {
                kind = FRAME;
            } else if (isAmong(WOOD_WORDS, letters)) {
                kind = WOOD;
            } else {
                kind = NO_TOKEN;
            }
        }

        private void readNumber() {
            while (place < tape.length && isDigit(tape.at(place))) {
                if (place - start < MOST_DIGITS) {
                    value = value * 10 + tape.at(place) - '0';
                }
                place++;
            }
            kind = place - start > MOST_DIGITS ? NO_TOKEN : NUMBER;
        }

        /** Whether a word stands among words with a blank between each two; the value is its place there. */
        private boolean isAmong(String words, long letters) {
            long wordLetters = 0;
            value = 0;
            for (int i = 0; i < words.length(); i++) {
                if (words.charAt(i) != ' ') {
                    wordLetters = withLetter(wordLetters, words.charAt(i));
                } else if (wordLetters == letters) {
                    return true;
                } else {
                    wordLetters = 0;
                    value++;
                }
            }
            return wordLetters == letters;
        }

        /** A word is told as one number, five bits a letter, so that two of them are compared at once. */
        private static long withLetter(long letters, int letter) {
            return letters * 32 + letter - 'a' + 1;
        }

        private static boolean isBlank(int sign) {
            return sign == 32 || sign == 10;
        }

        private static boolean isLetter(int sign) {
            return sign >= 'a' && sign <= 'z';
        }

        private static boolean isDigit(int sign) {
            return sign >= '0' && sign <= '9';
        }

        private static boolean isSymbol(int sign) {
            return sign == ';' || sign == '{' || sign == '}';
        }
    }

    /** Makes a plan of what stands on the tape, or finds its first error. */
    private static final class Compiler {
        /** Far above the steps and ends of loops that 60 actions in three loops can need. */
        private static final int MOST_STEPS = 1000000;

        private final Tape tape;
        private final Scanner scanner;
        private final int[] loopStarts = new int[MOST_LOOPS];
        private final int[] loopRounds = new int[MOST_LOOPS];
        private final int[] values = new int[MOST_VALUES];
        private final int[] valuePlaces = new int[MOST_VALUES];
        private int loops = 0;
        private int taken = 0;
        private boolean hasPiece = false;
        private boolean isBent = false;
        int errorAt = -1;

        Compiler(Tape tape) {
            this.tape = tape;
            scanner = new Scanner(tape);
        }

        private int fail(int error, int place) {
            errorAt = place;
            return error;
        }

        /** 1 if there is an error of form, else 0. */
        int formError() {
            errorAt = -1;
            return isWellFormed() ? 0 : fail(1, scanner.start);
        }

        /** Whether the form is right; otherwise the scanner stands at the first token that is wrong. */
        private boolean isWellFormed() {
            int depth = 0;
            boolean hasStep = false;
            scanner.goTo(0);
            for (int tokens = 0; tokens <= tape.length; tokens++) {
                scanner.next();
                if (hasStep && depth == 0 && scanner.kind == END) {
                    return true;
                }
                if (hasStep && depth > 0 && scanner.kind == '}') {
                    depth--;
                    continue;
                }
                if (scanner.kind != STEP) {
                    return false;
                }
                boolean isLoop = scanner.value == TIMES;
                if (!hasRestOf(scanner.value)) {
                    return false;
                }
                depth += isLoop ? 1 : 0;
                hasStep = !isLoop;
            }
            return false;
        }

        private boolean hasRestOf(int word) {
            String form = formOf(word);
            for (int i = 0; i < form.length(); i++) {
                scanner.next();
                if (scanner.kind != form.charAt(i)) {
                    return false;
                }
            }
            return true;
        }

        /** The kinds of the tokens that stand behind the word of a step, up to the symbol that ends it. */
        private static String formOf(int word) {
            switch (word) {
                case TAKE: return "f;";
                case GIVE: return "f;";
                case CUT: return "wn;";
                case BEND: return "nnn;";
                case FIT: return ";";
                case TIMES: return "n{";
                default: return "n;";
            }
        }

        /** Fills the empty plan by the tape, whose form is right; returns the error, 0 if there is none. */
        int goThrough(Plan plan) {
            loops = 0;
            taken = 0;
            hasPiece = false;
            isBent = false;
            scanner.goTo(0);
            for (int steps = 0; steps < MOST_STEPS; steps++) {
                scanner.next();
                if (scanner.kind == END) {
                    return hasPiece || taken != 0 ? fail(3, tape.length) : 0;
                }
                if (scanner.kind == '}') {
                    endRound();
                } else {
                    int error = doStep(plan);
                    if (error != 0) {
                        return error;
                    }
                }
            }
            return fail(4, scanner.start);
        }

        private int doStep(Plan plan) {
            int word = scanner.value;
            int wordPlace = scanner.start;
            readValues(word);
            int error = errorAtWord(word, plan);
            if (error != 0) {
                return fail(error, wordPlace);
            }
            int wrong = wrongNumber(word);
            if (wrong >= 0) {
                return fail(2, valuePlaces[wrong]);
            }
            if (word == TIMES) {
                beginLoop();
            } else {
                follow(word);
                plan.append(new Action(word, values[0], values[1], values[2]));
            }
            return 0;
        }

        private void readValues(int word) {
            int size = formOf(word).length();
            Arrays.fill(values, 0);
            for (int i = 0; i < size; i++) {
                scanner.next();
                if (i < MOST_VALUES) {
                    values[i] = scanner.value;
                    valuePlaces[i] = scanner.start;
                }
            }
        }

        private int errorAtWord(int word, Plan plan) {
            if (word == TIMES) {
                return loops >= MOST_LOOPS ? 4 : 0;
            }
            if (isOutOfTurn(word)) {
                return 3;
            }
            return plan.actionCount >= MOST_ACTIONS ? 4 : 0;
        }

        private boolean isOutOfTurn(int word) {
            boolean isTaken = (taken & (1 << values[0])) != 0;
            switch (word) {
                case TAKE: return isTaken;
                case GIVE: return !isTaken;
                case CUT: return hasPiece;
                case HOLD: return !hasPiece || taken == 0;
                case FIT: return !hasPiece || !isBent;
                default: return !hasPiece;
            }
        }

        /** Which of the values behind a word is the first number that is too small or too large; -1 if none is. */
        private int wrongNumber(int word) {
            String form = formOf(word);
            for (int i = 0; i < form.length() && i < MOST_VALUES; i++) {
                if (form.charAt(i) == NUMBER && !isAllowed(word, values[i])) {
                    return i;
                }
            }
            return -1;
        }

        private static boolean isAllowed(int word, int number) {
            switch (word) {
                case TIMES: return number >= 1 && number <= 9;
                case CUT: return number >= 10 && number <= 200;
                case BEND: return number >= 0 && number <= 40;
                default: return number >= 1 && number <= 30;
            }
        }

        /** Keeps in mind what an action leaves to those behind it. */
        private void follow(int word) {
            if (word == TAKE) {
                taken |= 1 << values[0];
            } else if (word == GIVE) {
                taken &= ~(1 << values[0]);
            } else if (word == CUT) {
                hasPiece = true;
                isBent = false;
            } else if (word == BEND) {
                isBent = true;
            } else if (word == FIT) {
                hasPiece = false;
            }
        }

        private void beginLoop() {
            if (loops < MOST_LOOPS) {
                loopStarts[loops] = scanner.placeBehind();
                loopRounds[loops] = values[0];
                loops++;
            }
        }

        private void endRound() {
            if (loops == 0) {
                return;
            }
            int loop = loops - 1;
            loopRounds[loop]--;
            if (loopRounds[loop] > 0) {
                scanner.goTo(loopStarts[loop]);
            } else {
                loops--;
            }
        }
    }

    /** One action of a plan, with the frame, the wood and number, or the numbers behind its word. */
    private static final class Action {
        final int word;
        final int first;
        final int second;
        final int third;

        Action(int word, int first, int second, int third) {
            this.word = word;
            this.first = first;
            this.second = second;
            this.third = third;
        }
    }

    /** The actions of a plan, as they are done. It is not changed any more when it was told. */
    private static final class Plan {
        private final Action[] actions = new Action[MOST_ACTIONS];
        int actionCount = 0;
        private int cuts = 0;
        private int lengths = 0;
        private int leastTicks = 0;

        void append(Action action) {
            if (actionCount >= MOST_ACTIONS) {
                return;
            }
            actions[actionCount] = action;
            actionCount++;
            if (action.word == CUT) {
                cuts++;
                lengths += action.second;
            }
            boolean isLong = action.word == WET || action.word == HEAT || action.word == HOLD;
            leastTicks += isLong ? action.first : 1;
        }

        /** The action at a place; null behind the last one. */
        Action at(int place) {
            return isBelow(place, actionCount) ? actions[place] : null;
        }

        int tell(int what) {
            switch (what) {
                case 0: return actionCount;
                case 1: return cuts;
                case 2: return lengths;
                default: return leastTicks;
            }
        }
    }

    private static final class Plank {
        int wood = 0;
        int length = 0;
        int wetness = 0;
        int knots = 0;
        /** The places of the knots, in ascending order. */
        private final int[] knotPlaces = new int[MOST_KNOTS];

        void become(int newWood, int newLength, int newWetness) {
            wood = newWood;
            length = newLength;
            wetness = newWetness;
            knots = 0;
        }

        boolean hasKnotAt(int place) {
            for (int i = 0; i < knots; i++) {
                if (knotPlaces[i] == place) {
                    return true;
                }
            }
            return false;
        }

        void insertKnot(int place) {
            if (knots >= MOST_KNOTS) {
                return;
            }
            int i = knots;
            while (i > 0 && knotPlaces[i - 1] > place) {
                knotPlaces[i] = knotPlaces[i - 1];
                i--;
            }
            knotPlaces[i] = place;
            knots++;
        }

        /** The first of the first so many places one behind the other without a knot; -1 if there are none. */
        int clearPlaceFor(int wanted) {
            int from = 0;
            for (int i = 0; i < knots; i++) {
                if (knotPlaces[i] - from >= wanted) {
                    return from;
                }
                from = knotPlaces[i] + 1;
            }
            return length - from >= wanted ? from : -1;
        }

        private int mostClear() {
            int from = 0;
            int most = 0;
            for (int i = 0; i < knots; i++) {
                most = Math.max(most, knotPlaces[i] - from);
                from = knotPlaces[i] + 1;
            }
            return Math.max(most, length - from);
        }

        /** Becomes what another plank has from a place on. */
        void becomeEndOf(Plank other, int from) {
            become(other.wood, other.length - from, other.wetness);
            for (int i = 0; i < other.knots; i++) {
                if (other.knotPlaces[i] >= from) {
                    knotPlaces[knots] = other.knotPlaces[i] - from;
                    knots++;
                }
            }
        }

        void shorten(int newLength) {
            length = newLength;
            int kept = 0;
            for (int i = 0; i < knots; i++) {
                if (knotPlaces[i] < newLength) {
                    kept++;
                }
            }
            knots = kept;
        }

        int tell(int what) {
            switch (what) {
                case 0: return wood;
                case 1: return length;
                case 2: return wetness;
                case 3: return knots;
                default: return mostClear();
            }
        }

        void copyFrom(Plank other) {
            become(other.wood, other.length, other.wetness);
            knots = other.knots;
            System.arraycopy(other.knotPlaces, 0, knotPlaces, 0, MOST_KNOTS);
        }
    }

    /** The planks of the yard, and what was wasted of them. */
    private static final class Store {
        final Plank[] planks = new Plank[MOST_PLANKS];
        int size = 0;
        int waste = 0;

        Store() {
            for (int i = 0; i < MOST_PLANKS; i++) {
                planks[i] = new Plank();
            }
        }

        int add(int wood, int length, int wetness) {
            if (size >= MOST_PLANKS) {
                return -1;
            }
            planks[size].become(wood, length, wetness);
            size++;
            return size - 1;
        }

        /** The plank of which a piece would be cut; -1 if there is none. */
        int plankFor(int wood, int length) {
            int best = -1;
            for (int i = 0; i < size; i++) {
                Plank plank = planks[i];
                boolean isShorter = best < 0 || plank.length < planks[best].length;
                if (plank.wood == wood && isShorter && plank.clearPlaceFor(length) >= 0) {
                    best = i;
                }
            }
            return best;
        }

        void cutAway(Plank plank, int place, int length) {
            int behind = place + length;
            int lengthBehind = plank.length - behind;
            if (lengthBehind < LEAST_PLANK || size >= MOST_PLANKS) {
                waste += lengthBehind;
            } else {
                planks[size].becomeEndOf(plank, behind);
                size++;
            }
            if (place < LEAST_PLANK) {
                waste += place;
                plank.shorten(0);
            } else {
                plank.shorten(place);
            }
        }

        void moveWetness() {
            for (int i = 0; i < size; i++) {
                if (planks[i].length > 0) {
                    planks[i].wetness = nearer(planks[i].wetness, 15, 1);
                }
            }
        }

        int lengthOfAll() {
            int sum = 0;
            for (int i = 0; i < size; i++) {
                sum += planks[i].length;
            }
            return sum;
        }

        void copyFrom(Store other) {
            size = other.size;
            waste = other.waste;
            for (int i = 0; i < size; i++) {
                planks[i].copyFrom(other.planks[i]);
            }
        }
    }

    /** The place of a slip for the piece that is worked on; everything about it is 0 while there is none. */
    private static final class Piece {
        boolean isThere = false;
        private int wood = 0;
        int wetness = 0;
        int heat = 0;
        int cracks = 0;
        final int[] bends = new int[BENDS];
        final int[] targets = new int[BENDS];

        void appear(int newWood, int newWetness) {
            isThere = true;
            wood = newWood;
            wetness = newWetness;
            heat = 20;
        }

        void vanish() {
            isThere = false;
            wood = 0;
            wetness = 0;
            heat = 0;
            cracks = 0;
            Arrays.fill(bends, 0);
            Arrays.fill(targets, 0);
        }

        void soak() {
            wetness = Math.min(100, wetness + 8);
            cool(10);
        }

        void warm() {
            heat = Math.min(200, heat + 25);
            dry(3);
        }

        boolean isBurning() {
            return heat > 150 && wetness < 10;
        }

        void settle() {
            dry(4);
            cool(15);
        }

        private void cool(int by) {
            heat = Math.max(20, heat - by);
        }

        private void dry(int by) {
            wetness = Math.max(0, wetness - by);
        }

        int bendTowards(Action action) {
            targets[0] = action.first;
            targets[1] = action.second;
            targets[2] = action.third;
            int step = heat * (wetness + 20) / (100 * stiffness());
            if (step == 0 && !isAsMeant()) {
                cracks++;
                if (cracks >= 3) {
                    return LOST;
                }
            } else {
                for (int i = 0; i < BENDS; i++) {
                    bends[i] = nearer(bends[i], targets[i], step);
                }
            }
            cool(10);
            dry(1);
            return isAsMeant() ? DONE : GOES_ON;
        }

        private int stiffness() {
            switch (wood) {
                case 0: return 8;
                case 1: return 6;
                case 2: return 5;
                default: return 4;
            }
        }

        private boolean isAsMeant() {
            for (int i = 0; i < BENDS; i++) {
                if (bends[i] != targets[i]) {
                    return false;
                }
            }
            return true;
        }

        /** Lets the bends spring back; returns by how much they differ from their targets then. */
        int springBack() {
            int sum = 0;
            for (int i = 0; i < BENDS; i++) {
                bends[i] -= bends[i] * wetness / 200;
                sum += Math.abs(targets[i] - bends[i]);
            }
            return sum;
        }

        void copyFrom(Piece other) {
            isThere = other.isThere;
            wood = other.wood;
            wetness = other.wetness;
            heat = other.heat;
            cracks = other.cracks;
            System.arraycopy(other.bends, 0, bends, 0, BENDS);
            System.arraycopy(other.targets, 0, targets, 0, BENDS);
        }
    }

    private static final class Slip {
        boolean builds = false;
        private Plan plan = null;
        int planNumber = -1;
        private int tolerance = 0;
        int begun = -1;
        /** Which action is next, and how many ticks of it are over. */
        private int actionPlace = 0;
        private int actionTicks = 0;
        private int cutPlace = 0;
        int parts = 0;
        int flaws = 0;
        private int lost = 0;
        final Piece piece = new Piece();
        private int held = 0;
        int waitsFor = -1;
        int waitsSince = -1;
        boolean hasLent = false;

        void begin(Plan newPlan, int newPlanNumber, int newTolerance, int tick) {
            builds = true;
            plan = newPlan;
            planNumber = newPlanNumber;
            tolerance = newTolerance;
            begun = tick;
            actionPlace = 0;
            actionTicks = 0;
            parts = 0;
            flaws = 0;
            lost = 0;
        }

        /** The action where it is; null if it has none to do. */
        Action action() {
            return builds && plan != null ? plan.at(actionPlace) : null;
        }

        void goOn() {
            actionPlace++;
            actionTicks = 0;
        }

        void losePiece() {
            piece.vanish();
            lost++;
            actionPlace = cutPlace;
            actionTicks = 0;
        }

        void getPiece(int wood, int wetness) {
            piece.appear(wood, wetness);
            cutPlace = actionPlace;
        }

        /** A tick of wet, heat or hold. */
        int treatPiece(Action action) {
            if (action.word == WET) {
                piece.soak();
            } else if (action.word == HOLD) {
                piece.settle();
            } else {
                piece.warm();
                if (piece.isBurning()) {
                    return LOST;
                }
            }
            actionTicks++;
            return actionTicks >= action.first ? DONE : GOES_ON;
        }

        int fitPiece() {
            int pieceFlaw = piece.springBack();
            if (pieceFlaw > tolerance) {
                return LOST;
            }
            piece.vanish();
            parts++;
            flaws += pieceFlaw;
            return DONE;
        }

        boolean holds(int sort) {
            return (held & (1 << sort)) != 0;
        }

        void release(int sort) {
            held &= ~(1 << sort);
        }

        void receive(int sort) {
            held |= 1 << sort;
            waitsFor = -1;
            waitsSince = -1;
            hasLent = false;
        }

        void await(int sort, int tick, boolean isLent) {
            waitsFor = sort;
            waitsSince = tick;
            hasLent = isLent;
        }

        boolean isWaiting() {
            return waitsFor >= 0;
        }

        /** Whether it could end, if frames of a set of sorts can be had. */
        boolean couldEnd(int sorts) {
            return !isWaiting() || (sorts & (1 << waitsFor)) != 0;
        }

        int heldSorts() {
            return held;
        }

        int tell(int what) {
            switch (what) {
                case 0: return builds ? 1 : 0;
                case 1: return planNumber;
                case 2: return actionPlace;
                case 3: return parts;
                case 4: return flaws;
                case 5: return piece.isThere ? 1 : 0;
                case 6: return piece.wetness;
                case 7: return piece.heat;
                case 8: return piece.cracks;
                case 9: return waitsFor;
                case 10: return waitsSince;
                case 11: return hasLent ? 1 : 0;
                case 12: return held;
                case 13: return lost;
                default: return begun;
            }
        }

        void copyFrom(Slip other) {
            begin(other.plan, other.planNumber, other.tolerance, other.begun);
            builds = other.builds;
            actionPlace = other.actionPlace;
            actionTicks = other.actionTicks;
            cutPlace = other.cutPlace;
            parts = other.parts;
            flaws = other.flaws;
            lost = other.lost;
            piece.copyFrom(other.piece);
            held = other.held;
            await(other.waitsFor, other.waitsSince, other.hasLent);
        }
    }

    /** All that ticks change. */
    private static final class Yard {
        int tick = 0;
        final Store store = new Store();
        final int[] frames = new int[SORTS];
        final int[] free = new int[SORTS];
        final Slip[] slips = new Slip[MOST_SLIPS];
        int slipCount = 0;
        final int[][] hulls = new int[KEPT_HULLS][HULL_FACTS];
        int finished = 0;
        int lost = 0;

        Yard() {
            for (int i = 0; i < MOST_SLIPS; i++) {
                slips[i] = new Slip();
            }
        }

        void passTick() {
            tick++;
            grantFrames();
            for (int i = 0; i < slipCount; i++) {
                if (!slips[i].hasLent) {
                    settle(i, work(slips[i]));
                }
            }
            if (tick % 5 == 0) {
                store.moveWetness();
            }
        }

        private void grantFrames() {
            int seen = 0;
            for (int i = 0; i < slipCount; i++) {
                int number = longestWaiting(seen);
                if (number < 0) {
                    return;
                }
                seen |= 1 << number;
                int sort = slips[number].waitsFor;
                if (isBelow(sort, SORTS) && free[sort] > 0) {
                    free[sort]--;
                    slips[number].receive(sort);
                }
            }
        }

        /** Of the slips that wait and are not in the set, the one that has waited longest; -1 if there is none. */
        private int longestWaiting(int seen) {
            int longest = -1;
            for (int i = 0; i < slipCount; i++) {
                boolean isLonger = longest < 0 || slips[i].waitsSince < slips[longest].waitsSince;
                if (slips[i].isWaiting() && (seen & (1 << i)) == 0 && isLonger) {
                    longest = i;
                }
            }
            return longest;
        }

        /** Does a slip's action for a tick; returns what this comes to. */
        private int work(Slip slip) {
            Action action = slip.action();
            if (action == null) {
                return GOES_ON;
            }
            switch (action.word) {
                case TAKE: return takeFrame(slip, action.first);
                case GIVE: return giveFrame(slip, action.first);
                case CUT: return cutPiece(slip, action.first, action.second);
                case BEND: return slip.piece.bendTowards(action);
                case FIT: return slip.fitPiece();
                default: return slip.treatPiece(action);
            }
        }

        private void settle(int number, int outcome) {
            Slip slip = slips[number];
            if (outcome == LOST) {
                slip.losePiece();
                lost++;
            } else if (outcome == DONE) {
                slip.goOn();
                if (slip.action() == null) {
                    finishHull(number);
                }
            }
        }

        private int takeFrame(Slip slip, int sort) {
            if (slip.holds(sort)) {
                return DONE;
            }
            if (!slip.isWaiting()) {
                slip.await(sort, tick, false);
            }
            return GOES_ON;
        }

        private int giveFrame(Slip slip, int sort) {
            if (slip.holds(sort) && isBelow(sort, SORTS)) {
                slip.release(sort);
                free[sort]++;
            }
            return DONE;
        }

        private int cutPiece(Slip slip, int wood, int length) {
            int number = store.plankFor(wood, length);
            if (number < 0) {
                return GOES_ON;
            }
            Plank plank = store.planks[number];
            slip.getPiece(wood, plank.wetness);
            store.cutAway(plank, plank.clearPlaceFor(length), length);
            return DONE;
        }

        private void finishHull(int number) {
            Slip slip = slips[number];
            slip.builds = false;
            if (finished < KEPT_HULLS) {
                int[] row = hulls[finished];
                row[0] = number;
                row[1] = slip.planNumber;
                row[2] = slip.parts;
                row[3] = slip.flaws;
                row[4] = slip.begun;
                row[5] = tick;
            }
            finished++;
        }

        int keptHulls() {
            return Math.min(finished, KEPT_HULLS);
        }

        int stuckSlips() {
            int given = 0;
            for (int sort = 0; sort < SORTS; sort++) {
                given |= free[sort] > 0 ? 1 << sort : 0;
            }
            // Each round reaches one slip more at least, or all are reached that can be.
            for (int round = 0; round < slipCount; round++) {
                for (int i = 0; i < slipCount; i++) {
                    given |= slips[i].couldEnd(given) ? slips[i].heldSorts() : 0;
                }
            }
            int stuck = 0;
            for (int i = 0; i < slipCount; i++) {
                stuck |= slips[i].couldEnd(given) ? 0 : 1 << i;
            }
            return stuck;
        }

        int buildingSlips() {
            int sum = 0;
            for (int i = 0; i < slipCount; i++) {
                sum += slips[i].builds ? 1 : 0;
            }
            return sum;
        }

        int waitingSlips() {
            int sum = 0;
            for (int sort = 0; sort < SORTS; sort++) {
                sum += slipsWaitingFor(sort);
            }
            return sum;
        }

        private int slipsWaitingFor(int sort) {
            int sum = 0;
            for (int i = 0; i < slipCount; i++) {
                sum += slips[i].waitsFor == sort ? 1 : 0;
            }
            return sum;
        }

        int tellFrames(int sort, int what) {
            if (!isBelow(sort, SORTS)) {
                return 0;
            }
            switch (what) {
                case 0: return frames[sort];
                case 1: return free[sort];
                default: return slipsWaitingFor(sort);
            }
        }

        int tellCount(int what) {
            switch (what) {
                case 0: return tick;
                case 1: return store.size;
                case 2: return slipCount;
                case 3: return buildingSlips();
                case 4: return waitingSlips();
                case 5: return finished;
                case 6: return lost;
                case 7: return store.waste;
                default: return store.lengthOfAll();
            }
        }

        /** Takes over all that ticks depend on; the rows of the hulls are not among it. */
        void copyFrom(Yard other) {
            tick = other.tick;
            slipCount = other.slipCount;
            finished = other.finished;
            lost = other.lost;
            store.copyFrom(other.store);
            System.arraycopy(other.frames, 0, frames, 0, SORTS);
            System.arraycopy(other.free, 0, free, 0, SORTS);
            for (int i = 0; i < slipCount; i++) {
                slips[i].copyFrom(other.slips[i]);
            }
        }
    }
}
