/** A computer whose words and steps lie on a turning drum; README.md tells how to use it. */
public final class DrumPlacer {
    public static final int NONE = -1;

    private static final int MISSING = -2;
    private static final int TOO_MANY_LOOSE = -3;
    private static final int FAULTY = -4;
    private static final int REFUSED = -5;
    private static final int NO_NUMBER = -20000;

    private static final int TAPE_BYTES = 700;
    private static final int MOST_TRACKS = 4;
    private static final int MOST_SECTORS = 12;
    private static final int MOST_ADDRESSES = 48;
    private static final int MOST_DIGIT = 9;
    private static final int MOST_WORDS = 8;
    private static final int MOST_STEPS = 12;
    private static final int MOST_ITEMS = 20;
    private static final int MOST_LINES = 21;
    private static final int MOST_DONE = 100;
    private static final int MOST_READINGS = 200;
    private static final int MOST_ACTS = 20;
    private static final int MOST_LOOSE = 4;

    private static final int LOAD = 0;
    private static final int ADD = 1;
    private static final int SUB = 2;
    private static final int MUL = 3;
    private static final int STORE = 4;
    private static final int LESS = 5;
    private static final int MOVE = 6;
    private static final int HALT = 7;

    private static final int IN_ORDER = 0;
    private static final int SOONEST = 1;
    private static final int BEST = 2;

    private final Tape tape;
    private final Reader reader;
    private final Plan draft;
    private final Plan plan;
    private final Trace trace;
    private final Clock clock;
    private final Laws laws;
    private final Search search;
    private final Acts acts;
    private final int[] laying;
    private final int[] lawLaying;
    private int fault;
    private int faultPlace;

    public DrumPlacer() {
        Tape ownTape = new Tape();
        Plan ownPlan = new Plan();
        Trace ownTrace = new Trace(ownPlan);
        Clock ownClock = new Clock(ownPlan, ownTrace);
        tape = ownTape;
        reader = new Reader(ownTape);
        draft = new Plan();
        plan = ownPlan;
        trace = ownTrace;
        clock = ownClock;
        laws = new Laws(ownPlan, ownTrace, ownClock);
        search = new Search(ownPlan, ownClock);
        acts = new Acts();
        laying = new int[MOST_ITEMS];
        lawLaying = new int[MOST_ITEMS];
        fault = 0;
        faultPlace = NONE;
    }

    public int feed(int a, int b, int c, int d, int e) {
        if (tape.size + 20 > TAPE_BYTES) {
            return NONE;
        }
        tape.append(a);
        tape.append(b);
        tape.append(c);
        tape.append(d);
        tape.append(e);
        return tape.size;
    }

    public int end(int n) {
        if (n < 0 || n > tape.size) {
            return NONE;
        }
        tape.size = n;
        return n;
    }

    public int drum() {
        reader.readText(draft);
        fault = reader.fault;
        faultPlace = reader.faultPlace;
        tape.size = 0;
        if (fault != 0) {
            return FAULTY;
        }
        plan.copyFrom(draft);
        trace.perform();
        laws.layInOrder(laying);
        search.forget();
        acts.count = 0;
        return plan.lines;
    }

    public int fault(int what) {
        switch (what) {
            case 0: return fault;
            case 1: return faultPlace;
            default: return NONE;
        }
    }

    public int count(int what) {
        switch (what) {
            case 0: return plan.tracks;
            case 1: return plan.sectors;
            case 2: return plan.wait;
            case 3: return plan.quick;
            case 4: return plan.mul;
            case 5: return plan.words;
            case 6: return plan.steps;
            case 7: return plan.loose();
            case 8: return acts.count;
            case 9: return plan.lines;
            case 10: return tape.size;
            default: return NONE;
        }
    }

    public int item(int item, int what) {
        if (!plan.isItem(item)) {
            return MISSING;
        }
        switch (what) {
            case 0: return plan.isStep(item) ? 1 : 0;
            case 1: return laying[item];
            case 2: return plan.isFixed(item) ? 1 : 0;
            case 3: return plan.op[item];
            default: return MISSING;
        }
    }

    public int at(int address) {
        return plan.isAddress(address) ? itemAt(address) : MISSING;
    }

    public int steps() {
        return plan.steps > 0 ? trace.done : MISSING;
    }

    public int why() {
        return plan.steps > 0 ? trace.ending : MISSING;
    }

    public int acc() {
        return plan.steps > 0 ? trace.acc : NO_NUMBER;
    }

    public int value(int item) {
        return plan.steps > 0 && plan.isWord(item) ? trace.value[item] : NO_NUMBER;
    }

    public int done(int k, int what) {
        if (plan.steps == 0 || k < 0 || what < 0 || what > 4) {
            return NO_NUMBER + MISSING;
        }
        if (k >= trace.done) {
            return NO_NUMBER + NONE;
        }
        switch (what) {
            case 0: return trace.stepDone[k];
            case 1: return trace.operandRead[k];
            case 2: return whenRead(trace.readingOf[k]);
            case 3: return trace.operandRead[k] == NONE ? NONE : whenRead(trace.readingOf[k] + 1);
            default: return trace.accBehind[k];
        }
    }

    public int time() {
        return plan.steps > 0 ? timeNow() : MISSING;
    }

    public int rounds() {
        return plan.steps > 0 && plan.sectors > 0 ? timeNow() / plan.sectors : MISSING;
    }

    public int lost() {
        return plan.steps > 0 ? lostInAll() : MISSING;
    }

    public int lostFor(int item) {
        if (plan.steps == 0 || !plan.isItem(item)) {
            return MISSING;
        }
        timeNow();
        return clock.lostOn(item);
    }

    public int worst() {
        if (plan.steps == 0) {
            return MISSING;
        }
        timeNow();
        int worst = NONE;
        int most = 0;
        for (int item = 0; item < plan.items; item++) {
            int lost = clock.lostOn(item);
            if (lost > most) {
                worst = item;
                most = lost;
            }
        }
        return worst;
    }

    public int met(int item) {
        return plan.steps > 0 && plan.isItem(item) ? trace.readingsOf(item) : MISSING;
    }

    public int bound() {
        if (plan.steps == 0) {
            return MISSING;
        }
        int time = timeNow();
        return time - clock.lostBehindFirst();
    }

    public int waiting(int w) {
        if (plan.steps == 0 || w < 0 || w > MOST_DIGIT) {
            return MISSING;
        }
        return clock.measure(laying, w, plan.quick);
    }

    public int quicker(int q) {
        if (plan.steps == 0 || !isQuick(q, plan.sectors)) {
            return MISSING;
        }
        return clock.measure(laying, plan.wait, q);
    }

    public int moved(int item, int address) {
        int refusal = refusalOfMove(item, address);
        return refusal != 0 ? refusal : timeMoved(item, address);
    }

    public int swapped(int item, int other) {
        int refusal = refusalOfExchange(item, other);
        return refusal != 0 ? refusal : timeExchanged(item, other);
    }

    public int best() {
        if (plan.steps == 0) {
            return MISSING;
        }
        int least = timeNow();
        int best = NONE;
        for (int item = 0; item < plan.items; item++) {
            for (int address = 0; address < plan.addresses(); address++) {
                if (!isMove(item, address)) {
                    continue;
                }
                int time = timeMoved(item, address);
                if (time < least) {
                    least = time;
                    best = 100 * item + address;
                }
            }
        }
        return best;
    }

    public int pair() {
        if (plan.steps == 0) {
            return MISSING;
        }
        int least = timeNow();
        int best = NONE;
        for (int item = 0; item < plan.items; item++) {
            for (int other = item + 1; other < plan.items; other++) {
                if (plan.isFixed(item) || plan.isFixed(other)) {
                    continue;
                }
                int time = timeExchanged(item, other);
                if (time < least) {
                    least = time;
                    best = 100 * item + other;
                }
            }
        }
        return best;
    }

    public int idle() {
        if (plan.steps == 0) {
            return MISSING;
        }
        int now = timeNow();
        int idle = 0;
        for (int item = 0; item < plan.items; item++) {
            for (int address = 0; address < plan.addresses(); address++) {
                if (isMove(item, address) && timeMoved(item, address) == now) {
                    idle++;
                }
            }
        }
        return idle;
    }

    public int lawful(int law) {
        int refusal = refusalOfLaw(law);
        if (refusal != 0) {
            return refusal;
        }
        layBy(law, lawLaying);
        return clock.measure(lawLaying, plan.wait, plan.quick);
    }

    public int address(int law, int item) {
        int refusal = refusalOfLaw(law);
        if (refusal == MISSING || !plan.isItem(item)) {
            return MISSING;
        }
        if (refusal != 0) {
            return refusal;
        }
        layBy(law, lawLaying);
        return lawLaying[item];
    }

    public long ways() {
        int refusal = refusalOfLaw(BEST);
        if (refusal != 0) {
            return refusal;
        }
        search.look();
        return search.ways;
    }

    public int dearest() {
        int refusal = refusalOfLaw(BEST);
        if (refusal != 0) {
            return refusal;
        }
        search.look();
        return search.most;
    }

    public int put(int item, int address) {
        int refusal = refusalOfMove(item, address);
        if (refusal != 0) {
            return refusal;
        }
        if (!acts.keep(laying)) {
            return REFUSED;
        }
        laying[item] = address;
        return timeNow();
    }

    public int swap(int item, int other) {
        int refusal = refusalOfExchange(item, other);
        if (refusal != 0) {
            return refusal;
        }
        if (!acts.keep(laying)) {
            return REFUSED;
        }
        exchange(item, other);
        return timeNow();
    }

    public int lays(int law) {
        int refusal = refusalOfLaw(law);
        if (refusal == MISSING) {
            return MISSING;
        }
        if (acts.count >= MOST_ACTS) {
            return REFUSED;
        }
        if (refusal != 0) {
            return refusal;
        }
        acts.keep(laying);
        layBy(law, laying);
        return timeNow();
    }

    public int undo() {
        if (plan.lines == 0) {
            return MISSING;
        }
        if (acts.count == 0) {
            return REFUSED;
        }
        acts.backTo(acts.count - 1, laying);
        return acts.count;
    }

    public int anew() {
        if (plan.lines == 0) {
            return MISSING;
        }
        int before = acts.count;
        acts.backTo(0, laying);
        return before;
    }

    private int itemAt(int address) {
        for (int item = 0; item < plan.items; item++) {
            if (laying[item] == address) {
                return item;
            }
        }
        return NONE;
    }

    private int timeNow() {
        return clock.measure(laying, plan.wait, plan.quick);
    }

    private int whenRead(int reading) {
        timeNow();
        return clock.whenOf(reading);
    }

    private int lostInAll() {
        timeNow();
        return clock.lostBehindFirst() + clock.lostAtFirst();
    }

    /** 0, or the answer to a move that can't be. */
    private int refusalOfMove(int item, int address) {
        if (plan.steps == 0 || !plan.isItem(item) || !plan.isAddress(address)) {
            return MISSING;
        }
        int there = itemAt(address);
        return plan.isFixed(item) || there != NONE && there != item ? REFUSED : 0;
    }

    /** 0, or the answer to an exchange that can't be. */
    private int refusalOfExchange(int item, int other) {
        if (plan.steps == 0 || item == other || !plan.isItem(item) || !plan.isItem(other)) {
            return MISSING;
        }
        return plan.isFixed(item) || plan.isFixed(other) ? REFUSED : 0;
    }

    /** 0, or the answer for a law that can't be used. */
    private int refusalOfLaw(int law) {
        if (plan.steps == 0 || law < IN_ORDER || law > BEST) {
            return MISSING;
        }
        return law == BEST && plan.loose() > MOST_LOOSE ? TOO_MANY_LOOSE : 0;
    }

    private boolean isMove(int item, int address) {
        return !plan.isFixed(item) && itemAt(address) == NONE;
    }

    private int timeMoved(int item, int address) {
        clock.aim(laying, plan.quick);
        clock.aimItem(item, address, plan.quick);
        return clock.walk(plan.wait, false);
    }

    private int timeExchanged(int item, int other) {
        clock.aim(laying, plan.quick);
        clock.aimItem(item, laying[other], plan.quick);
        clock.aimItem(other, laying[item], plan.quick);
        return clock.walk(plan.wait, false);
    }

    private void exchange(int item, int other) {
        int address = laying[item];
        laying[item] = laying[other];
        laying[other] = address;
    }

    private void layBy(int law, int[] target) {
        if (law == IN_ORDER) {
            laws.layInOrder(target);
        } else if (law == SOONEST) {
            laws.laySoonest(target);
        } else {
            search.look();
            copyItems(search.first, target);
        }
    }

    private static void copyItems(int[] from, int[] to) {
        System.arraycopy(from, 0, to, 0, MOST_ITEMS);
    }

    private static boolean isQuick(int quick, int sectors) {
        return quick == 0 || quick > 0 && quick < sectors && sectors % quick == 0;
    }

    /** The bytes that were fed and not yet read. */
    private static final class Tape {
        final int[] bytes = new int[TAPE_BYTES];
        int size = 0;

        void append(int number) {
            for (int shift = 24; shift >= 0 && size < TAPE_BYTES; shift -= 8) {
                bytes[size] = (number >>> shift) & 255;
                size++;
            }
        }

        int byteAt(int place) {
            return place >= 0 && place < size ? bytes[place] : NONE;
        }
    }

    /** Goes over the tape from token to token. */
    private static final class Tokens {
        static final int END = 0;
        static final int WORD = 1;
        static final int NUMBER = 2;
        static final int SEMICOLON = 3;
        static final int MINUS = 4;
        static final int STRANGE = 5;
        static final int NAME_LETTERS = 6;
        // Above every bound of the document, so that no row of digits is too long to be told.
        private static final int HUGE = 100000;

        private final Tape tape;
        int kind = END;
        int place = 0;
        int number = 0;
        /** A word's letters as a number of its own; NONE for a word that is too long for a NAME. */
        int name = NONE;
        private int behind = 0;

        Tokens(Tape tape) {
            this.tape = tape;
        }

        void begin() {
            behind = 0;
            advance();
        }

        void advance() {
            skipBlanks();
            place = behind;
            int first = tape.byteAt(place);
            if (first == NONE) {
                kind = END;
            } else if (isLetter(first)) {
                kind = WORD;
                takeLetters();
            } else if (isDigit(first)) {
                kind = NUMBER;
                takeDigits();
            } else {
                kind = first == ';' ? SEMICOLON : first == '-' ? MINUS : STRANGE;
                behind = place + 1;
            }
        }

        boolean is(String word) {
            if (kind != WORD || behind - place != word.length()) {
                return false;
            }
            for (int k = 0; k < word.length(); k++) {
                if (tape.byteAt(place + k) != word.charAt(k)) {
                    return false;
                }
            }
            return true;
        }

        /** Whether the token is a word of the lines that names no OP. */
        boolean isLineWord() {
            return is("drum") || is("word") || is("step") || is("at");
        }

        /** The OP that the token names; NONE if it names none. */
        int operation() {
            if (is("load")) {
                return LOAD;
            }
            if (is("add")) {
                return ADD;
            }
            if (is("sub")) {
                return SUB;
            }
            if (is("mul")) {
                return MUL;
            }
            if (is("store")) {
                return STORE;
            }
            if (is("less")) {
                return LESS;
            }
            if (is("move")) {
                return MOVE;
            }
            return is("halt") ? HALT : NONE;
        }

        private void skipBlanks() {
            while (behind < TAPE_BYTES && isBlank(tape.byteAt(behind))) {
                behind++;
            }
        }

        private void takeLetters() {
            name = 0;
            while (behind < TAPE_BYTES && isLetter(tape.byteAt(behind))) {
                boolean fits = behind - place < NAME_LETTERS;
                name = fits ? name * 27 + tape.byteAt(behind) - 'a' + 1 : NONE;
                behind++;
            }
        }

        private void takeDigits() {
            number = 0;
            while (behind < TAPE_BYTES && isDigit(tape.byteAt(behind))) {
                number = Math.min(number * 10 + tape.byteAt(behind) - '0', HUGE);
                behind++;
            }
        }

        private static boolean isBlank(int sign) {
            return sign == 32 || sign == 10;
        }

        private static boolean isLetter(int sign) {
            return sign >= 'a' && sign <= 'z';
        }

        private static boolean isDigit(int sign) {
            return sign >= '0' && sign <= '9';
        }
    }

    /** The DRUM and its ITEMS as told; no lines: there is no DRUM. */
    private static final class Plan {
        int tracks = 0;
        int sectors = 0;
        int wait = 0;
        int quick = 0;
        int mul = 0;
        int lines = 0;
        int items = 0;
        int words = 0;
        int steps = 0;
        int firstStep = NONE;
        final int[] op = new int[MOST_ITEMS];
        final int[] fixed = new int[MOST_ITEMS];
        final int[] start = new int[MOST_ITEMS];
        /** Of a STEP the ITEM that its first NAME tells. */
        final int[] target = new int[MOST_ITEMS];
        final int[] shift = new int[MOST_ITEMS];
        final int[] next = new int[MOST_ITEMS];
        /** The ITEM of each WORD, and of an ITEM that is a WORD which one it is. */
        final int[] wordItem = new int[MOST_WORDS];
        final int[] wordRank = new int[MOST_ITEMS];

        void clear() {
            tracks = 0;
            sectors = 0;
            wait = 0;
            quick = 0;
            mul = 0;
            lines = 0;
            items = 0;
            words = 0;
            steps = 0;
            firstStep = NONE;
        }

        void copyFrom(Plan other) {
            tracks = other.tracks;
            sectors = other.sectors;
            wait = other.wait;
            quick = other.quick;
            mul = other.mul;
            lines = other.lines;
            items = other.items;
            words = other.words;
            steps = other.steps;
            firstStep = other.firstStep;
            copyItems(other.op, op);
            copyItems(other.fixed, fixed);
            copyItems(other.start, start);
            copyItems(other.target, target);
            copyItems(other.shift, shift);
            copyItems(other.next, next);
            copyItems(other.wordRank, wordRank);
            System.arraycopy(other.wordItem, 0, wordItem, 0, MOST_WORDS);
        }

        void addWord(int number, int address) {
            if (words >= MOST_WORDS || items >= MOST_ITEMS) {
                return;
            }
            wordItem[words] = items;
            wordRank[items] = words;
            start[items] = number;
            words++;
            addItem(NONE, address);
        }

        void addStep(int operation, int further, int address) {
            if (steps >= MOST_STEPS || items >= MOST_ITEMS) {
                return;
            }
            if (steps == 0) {
                firstStep = items;
            }
            shift[items] = further;
            steps++;
            addItem(operation, address);
        }

        private void addItem(int operation, int address) {
            op[items] = operation;
            fixed[items] = address;
            target[items] = NONE;
            next[items] = NONE;
            items++;
        }

        boolean isItem(int item) {
            return item >= 0 && item < items;
        }

        boolean isStep(int item) {
            return isItem(item) && op[item] != NONE;
        }

        boolean isWord(int item) {
            return isItem(item) && op[item] == NONE;
        }

        boolean isFixed(int item) {
            return isItem(item) && fixed[item] != NONE;
        }

        boolean isAddress(int address) {
            return address >= 0 && address < addresses();
        }

        boolean isToldAddress(int address) {
            for (int item = 0; item < items; item++) {
                if (fixed[item] == address) {
                    return true;
                }
            }
            return false;
        }

        int addresses() {
            return tracks * sectors;
        }

        int loose() {
            int loose = 0;
            for (int item = 0; item < items; item++) {
                if (fixed[item] == NONE) {
                    loose++;
                }
            }
            return loose;
        }

        /** The WORD that stands so many further, behind the last one the first again. */
        int wordFurther(int word, int further) {
            if (!isWord(word) || words < 1 || further < 0) {
                return word;
            }
            int rank = (wordRank[word] + further) % words;
            return wordItem[rank];
        }
    }

    /** Reads a text into a plan; of the faults of a LINE the first alone is kept. */
    private static final class Reader {
        private static final int STRANGE_TOKEN = 1;
        private static final int OUT_OF_BOUNDS = 2;
        private static final int ONE_TOO_MANY = 3;
        private static final int NOT_TOLD_SO = 4;
        private static final int MOST_NUMBER = 9999;
        private static final int MOST_SHIFT = 7;

        private final Tokens tokens;
        private final int[] names = new int[MOST_ITEMS];
        private final int[] firstName = new int[MOST_ITEMS];
        private final int[] firstPlace = new int[MOST_ITEMS];
        private final int[] lastName = new int[MOST_ITEMS];
        private final int[] lastPlace = new int[MOST_ITEMS];
        int fault = 0;
        int faultPlace = NONE;

        Reader(Tape tape) {
            tokens = new Tokens(tape);
        }

        void readText(Plan plan) {
            fault = 0;
            faultPlace = NONE;
            plan.clear();
            tokens.begin();
            for (int line = 0; line <= MOST_LINES && goesOn(); line++) {
                if (line == 0) {
                    readDrum(plan);
                } else if (tokens.is("word")) {
                    readWord(plan);
                } else {
                    // Whatever else stands here is a fault there, as the word step is missing.
                    readStep(plan);
                }
                takeSemicolon();
                plan.lines++;
            }
            for (int item = 0; item < plan.items && fault == 0; item++) {
                linkStep(plan, item);
            }
        }

        private boolean goesOn() {
            return fault == 0 && tokens.kind != Tokens.END;
        }

        private void readDrum(Plan plan) {
            takeWord("drum");
            plan.tracks = takeMeasure("tracks", 1, MOST_TRACKS);
            plan.sectors = takeMeasure("sectors", 2, MOST_SECTORS);
            plan.wait = takeMeasure("wait", 0, MOST_DIGIT);
            plan.quick = takeQuick(plan.sectors);
            plan.mul = takeMeasure("mul", 0, MOST_DIGIT);
        }

        private void readWord(Plan plan) {
            takeItemWord("word", plan.words < MOST_WORDS && plan.items < plan.addresses());
            takeItemName(plan.items);
            boolean below = takeMinus();
            int number = takeNumber(0, MOST_NUMBER);
            int address = takeAddress(plan);
            if (fault == 0) {
                plan.addWord(below ? -number : number, address);
            }
        }

        private void readStep(Plan plan) {
            takeItemWord("step", plan.steps < MOST_STEPS && plan.items < plan.addresses());
            takeItemName(plan.items);
            int operation = takeOperation();
            int further = 0;
            if (operation != HALT) {
                takeReference(plan.items, firstName, firstPlace);
                further = operation == MOVE ? takeNumber(1, MOST_SHIFT) : 0;
                takeReference(plan.items, lastName, lastPlace);
            }
            int address = takeAddress(plan);
            if (fault == 0) {
                plan.addStep(operation, further, address);
            }
        }

        private void linkStep(Plan plan, int item) {
            int operation = plan.op[item];
            if (operation == NONE || operation == HALT) {
                return;
            }
            int first = itemNamed(firstName[item], plan.items);
            int last = itemNamed(lastName[item], plan.items);
            if (!mayBeFirst(plan, operation, first)) {
                failAt(NOT_TOLD_SO, firstPlace[item]);
            } else if (!plan.isStep(last)) {
                failAt(NOT_TOLD_SO, lastPlace[item]);
            } else {
                plan.target[item] = first;
                plan.next[item] = last;
            }
        }

        private static boolean mayBeFirst(Plan plan, int operation, int first) {
            if (operation == LESS) {
                return plan.isStep(first);
            }
            if (operation == MOVE) {
                return plan.isStep(first) && plan.op[first] <= STORE;
            }
            return plan.isWord(first);
        }

        private int itemNamed(int name, int items) {
            for (int item = 0; item < items && item < MOST_ITEMS; item++) {
                if (names[item] == name) {
                    return item;
                }
            }
            return NONE;
        }

        private void fail(int kind) {
            failAt(kind, tokens.place);
        }

        private void failAt(int kind, int place) {
            if (fault == 0) {
                fault = kind;
                faultPlace = place;
            }
        }

        private void takeSemicolon() {
            if (tokens.kind != Tokens.SEMICOLON) {
                fail(STRANGE_TOKEN);
            }
            tokens.advance();
        }

        private void takeWord(String word) {
            if (!tokens.is(word)) {
                fail(STRANGE_TOKEN);
            }
            tokens.advance();
        }

        private void takeItemWord(String word, boolean hasRoom) {
            if (tokens.is(word) && !hasRoom) {
                fail(ONE_TOO_MANY);
            }
            takeWord(word);
        }

        private void takeItemName(int item) {
            boolean reserved = tokens.isLineWord() || tokens.operation() != NONE;
            boolean told = itemNamed(tokens.name, item) != NONE;
            if (tokens.kind != Tokens.WORD) {
                fail(STRANGE_TOKEN);
            } else if (reserved || told || tokens.name == NONE) {
                fail(OUT_OF_BOUNDS);
            } else if (item < MOST_ITEMS) {
                names[item] = tokens.name;
            }
            tokens.advance();
        }

        private boolean takeMinus() {
            if (tokens.kind != Tokens.MINUS) {
                return false;
            }
            tokens.advance();
            return true;
        }

        private int takeMeasure(String label, int low, int high) {
            takeWord(label);
            return takeNumber(low, high);
        }

        private int takeNumber(int low, int high) {
            if (tokens.kind != Tokens.NUMBER) {
                fail(STRANGE_TOKEN);
            } else if (tokens.number < low || tokens.number > high) {
                fail(OUT_OF_BOUNDS);
            }
            int number = tokens.number;
            tokens.advance();
            return number;
        }

        private int takeQuick(int sectors) {
            takeWord("quick");
            if (tokens.kind == Tokens.NUMBER && !isQuick(tokens.number, sectors)) {
                fail(OUT_OF_BOUNDS);
            }
            return takeNumber(0, MOST_SECTORS);
        }

        private int takeOperation() {
            int operation = tokens.operation();
            if (operation == NONE) {
                fail(STRANGE_TOKEN);
            }
            tokens.advance();
            return operation;
        }

        private void takeReference(int item, int[] nameRow, int[] placeRow) {
            if (tokens.kind != Tokens.WORD) {
                fail(STRANGE_TOKEN);
            } else if (item < MOST_ITEMS) {
                nameRow[item] = tokens.name;
                placeRow[item] = tokens.place;
            }
            tokens.advance();
        }

        private int takeAddress(Plan plan) {
            if (!tokens.is("at")) {
                return NONE;
            }
            tokens.advance();
            if (tokens.kind == Tokens.NUMBER && plan.isToldAddress(tokens.number)) {
                fail(OUT_OF_BOUNDS);
            }
            return takeNumber(0, plan.addresses() - 1);
        }
    }

    /** What RUN does; where the ITEMS lie has no say in it, so one trace serves all layings. */
    private static final class Trace {
        static final int BEHIND_STEP = 0;
        static final int BEHIND_OPERAND = 1;
        static final int BEHIND_FACTOR = 2;
        private static final int SPAN = 20000;
        private static final int LEAST = -10000;

        private final Plan plan;
        int done = 0;
        int ending = 0;
        int acc = 0;
        final int[] value = new int[MOST_ITEMS];
        private final int[] operand = new int[MOST_ITEMS];
        final int[] stepDone = new int[MOST_DONE];
        final int[] operandRead = new int[MOST_DONE];
        final int[] accBehind = new int[MOST_DONE];
        final int[] readingOf = new int[MOST_DONE];
        int readings = 0;
        final int[] itemRead = new int[MOST_READINGS];
        final int[] behind = new int[MOST_READINGS];
        /** Ahead of a reading: how many passes of how many readings just went by and come again. */
        final int[] passesToCome = new int[MOST_READINGS + 1];
        final int[] passReadings = new int[MOST_READINGS + 1];
        private final int[] stepsSaved = new int[MOST_DONE];
        private final int[] passSteps = new int[MOST_DONE];

        Trace(Plan plan) {
            this.plan = plan;
        }

        void perform() {
            copyItems(plan.start, value);
            copyItems(plan.target, operand);
            acc = 0;
            done = 0;
            readings = 0;
            ending = 2;
            int step = plan.firstStep;
            for (int k = 0; k < MOST_DONE && plan.isStep(step); k++) {
                step = doStep(step, k);
            }
            markPasses();
        }

        /** Does the k-th STEP; the next one, NONE behind a halt. */
        private int doStep(int step, int k) {
            int operation = plan.op[step];
            int other = operation == LESS || operation == HALT ? NONE : operand[step];
            stepDone[k] = step;
            operandRead[k] = other;
            readingOf[k] = readings;
            addReading(step, BEHIND_STEP);
            if (plan.isItem(other)) {
                addReading(other, operation == MUL ? BEHIND_FACTOR : BEHIND_OPERAND);
                carryOut(step, operation, other);
            }
            accBehind[k] = acc;
            done = k + 1;
            if (operation == HALT) {
                ending = 1;
                return NONE;
            }
            return operation == LESS && acc < 0 ? plan.target[step] : plan.next[step];
        }

        private void addReading(int item, int kind) {
            if (readings < MOST_READINGS) {
                itemRead[readings] = item;
                behind[readings] = kind;
                readings++;
            }
        }

        private void carryOut(int step, int operation, int other) {
            switch (operation) {
                case LOAD: acc = value[other]; break;
                case ADD: acc = within(acc + value[other]); break;
                case SUB: acc = within(acc - value[other]); break;
                case MUL: acc = within(acc * value[other]); break;
                case STORE: value[other] = acc; break;
                case MOVE:
                    operand[other] = plan.wordFurther(operand[other], plan.shift[step]);
                    break;
                default: break;
            }
        }

        private static int within(int number) {
            return Math.floorMod(number - LEAST, SPAN) + LEAST;
        }

        /**
         * Where the same STEPS with the same operands are done three times or more, each later
         * pass takes as long as the second one: an ITEM that was read fixes the time modulo its
         * turn, so from the first pass on each one leaves off at the same place of the drum
         * (of the quick heads' turn, if all lie there). So the later ones need no count.
         */
        private void markPasses() {
            for (int k = 0; k <= MOST_READINGS; k++) {
                passesToCome[k] = 0;
            }
            for (int k = 0; k < MOST_DONE; k++) {
                stepsSaved[k] = 0;
            }
            for (int length = 1; 3 * length <= done; length++) {
                weighPasses(length);
            }
            int unmarked = 0;
            for (int k = 0; k < done; k++) {
                if (k >= unmarked && stepsSaved[k] > 0) {
                    unmarked = k + markPassesFrom(k, passSteps[k]);
                }
            }
        }

        /** For passes of so many STEPS, wherever they begin: how many STEPS need no count. */
        private void weighPasses(int length) {
            if (length < 1) {
                return;
            }
            int alike = 0;
            for (int k = done - length - 1; k >= 0; k--) {
                boolean same = stepDone[k] == stepDone[k + length]
                        && operandRead[k] == operandRead[k + length];
                alike = same ? alike + 1 : 0;
                int saved = alike - alike % length - length;
                if (saved > stepsSaved[k]) {
                    stepsSaved[k] = saved;
                    passSteps[k] = length;
                }
            }
        }

        /** How many STEPS the passes have that begin with the k-th one. */
        private int markPassesFrom(int k, int length) {
            int second = k + length;
            int third = second + length;
            if (length > 0 && third < done) {
                int reading = readingOf[third];
                passesToCome[reading] = stepsSaved[k] / length;
                passReadings[reading] = reading - readingOf[second];
            }
            return 2 * length + stepsSaved[k];
        }

        int readingsOf(int item) {
            int met = 0;
            for (int k = 0; k < readings; k++) {
                if (itemRead[k] == item) {
                    met++;
                }
            }
            return met;
        }
    }

    /** Counts the word times of a trace; keeps those of the latest measure. */
    private static final class Clock {
        private final Plan plan;
        private final Trace trace;
        private final int[] turn = new int[MOST_ITEMS];
        private final int[] phase = new int[MOST_ITEMS];
        private final int[] when = new int[MOST_READINGS];
        private final int[] waited = new int[MOST_READINGS];

        Clock(Plan plan, Trace trace) {
            this.plan = plan;
            this.trace = trace;
        }

        /** TIME of RUN with ITEMS laid so; keeps when each is read. */
        int measure(int[] laying, int wait, int quick) {
            aim(laying, quick);
            return walk(wait, true);
        }

        void aim(int[] laying, int quick) {
            for (int item = 0; item < plan.items; item++) {
                aimItem(item, laying[item], quick);
            }
        }

        void aimItem(int item, int address, int quick) {
            int modulus = turnAt(address, quick);
            turn[item] = modulus;
            phase[item] = modulus > 0 ? address % modulus : 0;
        }

        /** TIME of RUN with ITEMS as aimed at; reading by reading, or without the known passes. */
        int walk(int wait, boolean whole) {
            int from = 0;
            int end = 0;
            int k = 0;
            while (k < trace.readings) {
                int item = trace.itemRead[k];
                int kind = trace.behind[k];
                int lost = lostFrom(from, turn[item], phase[item]);
                waited[k] = lost;
                when[k] = from + lost;
                end = from + lost + 1 + (kind == Trace.BEHIND_FACTOR ? plan.mul : 0);
                from = end + (kind == Trace.BEHIND_STEP ? wait : 0);
                k++;
                int passes = whole ? 0 : trace.passesToCome[k];
                int length = trace.passReadings[k];
                if (passes > 0 && length > 0 && length <= k) {
                    int begun = when[k - length] - waited[k - length];
                    end += passes * (from - begun);
                    from += passes * (from - begun);
                    k += passes * length;
                }
            }
            return end;
        }

        /** After how many word times what lies at an ADDRESS can be read again. */
        int turnAt(int address, int quick) {
            boolean lastTrack = address >= (plan.tracks - 1) * plan.sectors;
            return lastTrack && quick > 0 ? quick : plan.sectors;
        }

        /** How long an ITEM at an ADDRESS is waited for from a time on. */
        int lostAt(int from, int address) {
            int modulus = turnAt(address, plan.quick);
            return modulus > 0 ? lostFrom(from, modulus, address % modulus) : 0;
        }

        private static int lostFrom(int from, int modulus, int rest) {
            if (modulus < 1) {
                return 0;
            }
            int lost = rest - from % modulus;
            return lost < 0 ? lost + modulus : lost;
        }

        int whenOf(int reading) {
            return reading >= 0 && reading < trace.readings ? when[reading] : NONE;
        }

        int lostAtFirst() {
            return trace.readings > 0 ? waited[0] : 0;
        }

        int lostBehindFirst() {
            int lost = 0;
            for (int k = 1; k < trace.readings; k++) {
                lost += waited[k];
            }
            return lost;
        }

        int lostOn(int item) {
            int lost = 0;
            for (int k = 0; k < trace.readings; k++) {
                if (trace.itemRead[k] == item) {
                    lost += waited[k];
                }
            }
            return lost;
        }
    }

    /** Lays ITEMS by LAW 0 and LAW 1. */
    private static final class Laws {
        private final Plan plan;
        private final Trace trace;
        private final Clock clock;
        private final boolean[] taken = new boolean[MOST_ADDRESSES];

        Laws(Plan plan, Trace trace, Clock clock) {
            this.plan = plan;
            this.trace = trace;
            this.clock = clock;
        }

        void layInOrder(int[] laying) {
            layFixed(laying);
            layRest(laying);
        }

        void laySoonest(int[] laying) {
            layFixed(laying);
            int from = 0;
            for (int k = 0; k < trace.readings; k++) {
                int item = trace.itemRead[k];
                if (laying[item] == NONE) {
                    lay(laying, item, soonest(from));
                }
                int kind = trace.behind[k];
                from += clock.lostAt(from, laying[item]) + 1;
                from += kind == Trace.BEHIND_STEP ? plan.wait : 0;
                from += kind == Trace.BEHIND_FACTOR ? plan.mul : 0;
            }
            layRest(laying);
        }

        private void layFixed(int[] laying) {
            for (int address = 0; address < MOST_ADDRESSES; address++) {
                taken[address] = false;
            }
            for (int item = 0; item < plan.items; item++) {
                lay(laying, item, plan.fixed[item]);
            }
        }

        private void layRest(int[] laying) {
            for (int item = 0; item < plan.items; item++) {
                if (laying[item] == NONE) {
                    lay(laying, item, leastFree());
                }
            }
        }

        private void lay(int[] laying, int item, int address) {
            laying[item] = address;
            if (plan.isAddress(address)) {
                taken[address] = true;
            }
        }

        private int leastFree() {
            for (int address = 0; address < plan.addresses(); address++) {
                if (!taken[address]) {
                    return address;
                }
            }
            return NONE;
        }

        private int soonest(int from) {
            int soonest = NONE;
            int least = MOST_SECTORS;
            for (int address = 0; address < plan.addresses(); address++) {
                int lost = clock.lostAt(from, address);
                if (!taken[address] && lost < least) {
                    soonest = address;
                    least = lost;
                }
            }
            return soonest;
        }
    }

    /** Goes through all layings once for a DRUM, for LAW 2 and for what is asked of them all. */
    private static final class Search {
        private final Plan plan;
        private final Clock clock;
        private final int[] loose = new int[MOST_LOOSE];
        private int looseCount = 0;
        private final int[] trial = new int[MOST_ITEMS];
        private final boolean[] taken = new boolean[MOST_ADDRESSES];
        /** ADDRESSES of one group are read at the same times, so one of them stands for all. */
        private final int[] group = new int[MOST_ADDRESSES];
        private final int[] freeInGroup = new int[2 * MOST_SECTORS];
        private boolean looked = false;
        private int least = 0;
        int most = 0;
        long ways = 0;
        /** Of all layings with the least TIME the first one. */
        final int[] first = new int[MOST_ITEMS];

        Search(Plan plan, Clock clock) {
            this.plan = plan;
            this.clock = clock;
        }

        void forget() {
            looked = false;
        }

        void look() {
            if (looked) {
                return;
            }
            looked = true;
            least = NONE;
            most = 0;
            ways = 0;
            takeFixed();
            groupAddresses();
            clock.aim(trial, plan.quick);
            layLoose(0, 1);
        }

        private void takeFixed() {
            for (int address = 0; address < MOST_ADDRESSES; address++) {
                taken[address] = false;
            }
            looseCount = 0;
            for (int item = 0; item < plan.items; item++) {
                int address = plan.fixed[item];
                trial[item] = address;
                if (plan.isAddress(address)) {
                    taken[address] = true;
                } else if (looseCount < MOST_LOOSE) {
                    loose[looseCount] = item;
                    looseCount++;
                }
            }
        }

        private void groupAddresses() {
            for (int own = 0; own < 2 * MOST_SECTORS; own++) {
                freeInGroup[own] = 0;
            }
            for (int address = 0; address < plan.addresses(); address++) {
                int turn = clock.turnAt(address, plan.quick);
                int sector = turn > 0 ? address % turn : 0;
                group[address] = turn == plan.sectors ? sector : MOST_SECTORS + sector;
                if (!taken[address]) {
                    freeInGroup[group[address]]++;
                }
            }
        }

        /**
         * Of each group the least free ADDRESS is tried, the least first: so the first of the
         * layings that are alike in time comes first, and stands for as many as there are.
         */
        private void layLoose(int depth, long alike) {
            if (depth >= looseCount || depth >= MOST_LOOSE) {
                judge(alike);
                return;
            }
            int item = loose[depth];
            int seen = 0;
            for (int address = 0; address < plan.addresses(); address++) {
                int own = group[address];
                if (taken[address] || (seen >> own & 1) != 0) {
                    continue;
                }
                seen |= 1 << own;
                int free = freeInGroup[own];
                taken[address] = true;
                freeInGroup[own] = free - 1;
                trial[item] = address;
                clock.aimItem(item, address, plan.quick);
                layLoose(depth + 1, alike * free);
                freeInGroup[own] = free;
                taken[address] = false;
            }
        }

        private void judge(long alike) {
            int time = clock.walk(plan.wait, false);
            most = Math.max(most, time);
            if (least == NONE || time < least) {
                least = time;
                ways = 0;
                copyItems(trial, first);
            }
            if (time == least) {
                ways += alike;
            }
        }
    }

    /** What was before each act that was not taken back. */
    private static final class Acts {
        private final int[] before = new int[MOST_ACTS * MOST_ITEMS];
        int count = 0;

        /** Keeps what is before an act; false if there were too many. */
        boolean keep(int[] laying) {
            if (count >= MOST_ACTS) {
                return false;
            }
            System.arraycopy(laying, 0, before, count * MOST_ITEMS, MOST_ITEMS);
            count++;
            return true;
        }

        void backTo(int act, int[] laying) {
            if (act >= 0 && act < count) {
                System.arraycopy(before, act * MOST_ITEMS, laying, 0, MOST_ITEMS);
                count = act;
            }
        }
    }
}
