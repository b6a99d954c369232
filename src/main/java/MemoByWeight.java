/**
 * Function results kept by keys and by weight: rules told as texts over cells and over one
 * another, asked with an argument, kept within a bound, thrown out by changes, run by tasks.
 */
public final class MemoByWeight {
    public static final int BAD = -20001;
    public static final int NOT = -20002;
    public static final int STATE = -20003;
    public static final int FULL = -20004;

    private static final int CELLS = 12;
    private static final int RULES = 12;
    private static final int TASKS = 4;
    private static final int CELL_MOST = 99;
    private static final int ARGUMENT_MOST = 50;
    private static final int ARGUMENTS = 101;
    private static final int KEYS = RULES * ARGUMENTS;
    private static final int TAPE_MOST = 100;
    private static final int OPEN_MOST = 5;
    private static final int VALUE_MOST = 9999;
    private static final int FRAMES_MOST = 30;
    private static final int STEPS_MOST = 2000;
    private static final int BOUND_MOST = 300;
    private static final int STEPPED_MOST = 100;
    // A KEY weighs 3 at least; one more row for the new KEY that may have to go at once.
    private static final int ROWS = BOUND_MOST / 3 + 1;
    // A call takes four bytes of its TEXT at least, besides what its argument holds.
    private static final int CALLS_MOST = TAPE_MOST / 4;
    // A bracket leaves three parts waiting (of < or =, + or -, * or /), and five may be open.
    private static final int PARTS_MOST = 3 * (OPEN_MOST + 1) + 1;

    private static final int IDLE = 0;
    private static final int RUNNING = 1;
    private static final int WAITING = 2;
    private static final int ENDED = 3;
    private static final int FAILED = 4;

    private static final int BY_RING = 1;
    private static final int BY_ZERO = 2;
    private static final int BY_VALUE = 3;
    private static final int BY_FRAMES = 4;
    private static final int BY_NO_TEXT = 5;
    private static final int BY_LONG = 6;

    private static final int NUMBER = 0;
    private static final int ARGUMENT = 1;
    private static final int CELL = 2;
    private static final int CALL = 3;
    private static final int NEGATE = 4;
    private static final int CHOICE = 5;
    private static final int JUMP = 6;
    private static final int PLUS = 7;
    private static final int MINUS = 8;
    private static final int TIMES = 9;
    private static final int OVER = 10;
    private static final int LESS = 11;
    private static final int EQUAL = 12;

    private static final int NO_KEY = -1;

    private final int[] cells = new int[CELLS];
    private final Text[] texts = new Text[RULES];
    private final Reader reader = new Reader();
    private final Store store = new Store();
    private final Thought thought = new Thought();
    private final Run asking = new Run();
    private final Run[] tasks = new Run[TASKS];
    private int time;
    private int latestSteps;
    private int hits;
    private int framesBegun;
    private int failures;
    private int waitsBegun;

    public MemoByWeight() {
        for (int i = 0; i < RULES; i++) {
            texts[i] = new Text();
        }
        for (int i = 0; i < TASKS; i++) {
            tasks[i] = new Run();
        }
    }

    // ---- cells, rules

    public int feed(int letter) {
        if (letter < 0 || letter > 255) {
            return BAD;
        }
        return reader.add(letter) ? reader.size : FULL;
    }

    public int rule(int rule) {
        if (!within(rule, RULES)) {
            return BAD;
        }
        if (!reader.readTape()) {
            return -100 - reader.fault;
        }
        texts[rule].become(reader.made);
        changed(CELLS + rule);
        return texts[rule].nodes;
    }

    public int drop(int rule) {
        if (!within(rule, RULES)) {
            return BAD;
        }
        if (!texts[rule].stands()) {
            return STATE;
        }
        texts[rule].empty();
        return changed(CELLS + rule);
    }

    public int set(int cell, int v) {
        if (!within(cell, CELLS) || v < -CELL_MOST || v > CELL_MOST) {
            return BAD;
        }
        if (cells[cell] == v) {
            return 0;
        }
        cells[cell] = v;
        return changed(cell);
    }

    public int cell(int cell) {
        return within(cell, CELLS) ? cells[cell] : BAD;
    }

    // ---- asking

    public int ask(int rule, int argument) {
        if (!isKey(rule, argument)) {
            return BAD;
        }
        asking.renew(Run.BY_ASK);
        workOut(asking, keyOf(rule, argument));
        latestSteps = asking.steps;
        return asking.outcome();
    }

    public int fresh(int rule, int argument) {
        if (!isKey(rule, argument)) {
            return BAD;
        }
        thought.forget();
        asking.renew(Run.IN_THOUGHT);
        workOut(asking, keyOf(rule, argument));
        return asking.outcome();
    }

    public int steps() {
        return latestSteps;
    }

    // ---- what is kept

    public int bound(int n) {
        if (n < 1 || n > BOUND_MOST) {
            return BAD;
        }
        int was = store.bound;
        store.bound = n;
        store.shrink();
        return was;
    }

    public int policy(int p) {
        if (p < 0 || p > 3) {
            return BAD;
        }
        int was = store.policy;
        store.policy = p;
        return was;
    }

    public int kept(int key, int what) {
        if (!within(key, KEYS) || what < 0 || what > 6) {
            return BAD;
        }
        Kept row = store.find(key);
        return row == null ? NOT : row.tell(what);
    }

    public int asked(int key, int i) {
        if (!within(key, KEYS) || i < 0) {
            return BAD;
        }
        Kept row = store.find(key);
        return row == null || i >= row.askedSize ? NOT : row.asked[i];
    }

    public int key(int way, int i) {
        if (way < 0 || way > 1 || i < 0) {
            return BAD;
        }
        if (i >= store.size) {
            return NOT;
        }
        return way == 0 ? store.byNumber(i) : store.rows[i].key;
    }

    public int wave(int i) {
        if (i < 0) {
            return BAD;
        }
        return i < store.waveSize ? store.wave[i] : NOT;
    }

    public int would(int what) {
        return within(what, CELLS + RULES) ? store.users(1 << what) : BAD;
    }

    public int heirs(int key) {
        if (!within(key, KEYS)) {
            return BAD;
        }
        Kept row = store.find(key);
        return row == null ? NOT : store.heirsOf(row);
    }

    public int chain(int key) {
        if (!within(key, KEYS)) {
            return BAD;
        }
        Kept row = store.find(key);
        return row == null ? NOT : store.chainFrom(row);
    }

    public int next() {
        return store.size == 0 ? NOT : store.rows[store.leastWorth()].key;
    }

    public int clear() {
        return store.empty();
    }

    // ---- tasks

    public int start(int task, int rule, int argument) {
        if (!within(task, TASKS) || !isKey(rule, argument)) {
            return BAD;
        }
        Run run = tasks[task];
        if (run.isBusy()) {
            return STATE;
        }
        run.renew(Run.BY_TASK);
        askKey(run, keyOf(rule, argument));
        return run.state;
    }

    public int step(int task, int n) {
        if (!within(task, TASKS) || n < 1 || n > STEPPED_MOST) {
            return BAD;
        }
        Run run = tasks[task];
        if (!run.isBusy()) {
            return STATE;
        }
        int before = run.steps;
        goOn(run);
        for (int i = 0; i < n && run.state == RUNNING; i++) {
            workStep(run);
        }
        return run.steps - before;
    }

    public int stop(int task) {
        if (!within(task, TASKS)) {
            return BAD;
        }
        Run run = tasks[task];
        if (!run.isBusy()) {
            return STATE;
        }
        int had = run.depth;
        run.renew(Run.BY_TASK);
        return had;
    }

    public int task(int task, int what) {
        if (!within(task, TASKS) || what < 0 || what > 5) {
            return BAD;
        }
        Run run = tasks[task];
        switch (what) {
            case 0:
                return run.state;
            case 1:
                return run.state == ENDED || run.state == FAILED ? run.outcome() : NOT;
            case 2:
                return run.depth;
            case 3:
                return run.steps;
            case 4:
                return run.state == WAITING ? run.waitsFor : NOT;
            default:
                return run.state == WAITING ? run.waitsForKey : NOT;
        }
    }

    public int frame(int task, int i) {
        if (!within(task, TASKS) || i < 0) {
            return BAD;
        }
        Run run = tasks[task];
        return i < run.depth ? run.frames[i].key : NOT;
    }

    public int led(int what) {
        switch (what) {
            case 0:
                return hits;
            case 1:
                return framesBegun;
            case 2:
                return failures;
            case 3:
                return store.thrownOut;
            case 4:
                return store.wentByBound;
            case 5:
                return store.everKept;
            case 6:
                return waitsBegun;
            default:
                return BAD;
        }
    }

    public int count(int what) {
        switch (what) {
            case 0:
                return store.size;
            case 1:
                return store.weights;
            case 2:
                return rulesWithText();
            case 3:
                return reader.size;
            case 4:
                return time;
            case 5:
                return busyTasks();
            default:
                return BAD;
        }
    }

    // ---- numbers told by the caller

    private static boolean within(int i, int size) {
        return i >= 0 && i < size;
    }

    private static boolean isArgument(int argument) {
        return argument >= -ARGUMENT_MOST && argument <= ARGUMENT_MOST;
    }

    private static boolean isKey(int rule, int argument) {
        return within(rule, RULES) && isArgument(argument);
    }

    private static int keyOf(int rule, int argument) {
        return ARGUMENTS * rule + argument + ARGUMENT_MOST;
    }

    private int rulesWithText() {
        int n = 0;
        for (Text text : texts) {
            if (text.stands()) {
                n++;
            }
        }
        return n;
    }

    private int busyTasks() {
        int n = 0;
        for (Run run : tasks) {
            if (run.isBusy()) {
                n++;
            }
        }
        return n;
    }

    // ---- working runs out

    private void workOut(Run run, int key) {
        askKey(run, key);
        for (int i = 0; i <= STEPS_MOST && run.state == RUNNING; i++) {
            workStep(run);
        }
    }

    /** What a TASK does ahead of its STEPS when it is STEPPED. */
    private void goOn(Run run) {
        if (run.state == WAITING) {
            askKey(run, run.waitsForKey);
            settle(run);
            return;
        }
        Frame top = run.top();
        if (top == null || !top.hasText()) {
            fail(run, BY_NO_TEXT);
        }
    }

    private void workStep(Run run) {
        Frame top = run.top();
        if (top == null) {
            return;
        }
        if (run.steps >= STEPS_MOST) {
            fail(run, BY_LONG);
            return;
        }
        run.steps++;
        int called = workNode(run, top);
        if (called != NO_KEY) {
            askKey(run, called);
        }
        settle(run);
    }

    /** Works out one NODE; the KEY that it asks, if it is a call, else NO_KEY. */
    private int workNode(Run run, Frame top) {
        int code = top.fetch();
        int operand = code >> 4;
        switch (code & 15) {
            case NUMBER:
                top.push(operand);
                return NO_KEY;
            case ARGUMENT:
                top.push(top.argument());
                return NO_KEY;
            case CELL:
                readCell(top, operand);
                return NO_KEY;
            case CALL:
                return calledKey(run, top, operand);
            case NEGATE:
                top.push(-top.pop());
                return NO_KEY;
            case CHOICE:
                if (top.pop() == 0) {
                    top.at = operand;
                }
                return NO_KEY;
            default:
                workSign(run, top, code & 15);
                return NO_KEY;
        }
    }

    private void readCell(Frame top, int cell) {
        if (within(cell, CELLS)) {
            top.used |= 1 << cell;
            top.push(cells[cell]);
        }
    }

    private int calledKey(Run run, Frame top, int rule) {
        int argument = top.pop();
        if (isArgument(argument)) {
            return keyOf(rule, argument);
        }
        fail(run, BY_VALUE);
        return NO_KEY;
    }

    private void workSign(Run run, Frame top, int sign) {
        int right = top.pop();
        int left = top.pop();
        if (sign == OVER && right == 0) {
            fail(run, BY_ZERO);
            return;
        }
        int value = join(sign, left, right);
        if (value < -VALUE_MOST || value > VALUE_MOST) {
            fail(run, BY_VALUE);
            return;
        }
        top.push(value);
    }

    private static int join(int sign, int left, int right) {
        switch (sign) {
            case PLUS:
                return left + right;
            case MINUS:
                return left - right;
            case TIMES:
                return left * right;
            case OVER:
                return right == 0 ? 0 : left / right;
            case LESS:
                return left < right ? 1 : 0;
            default:
                return left == right ? 1 : 0;
        }
    }

    /** A KEY is asked by a run: by the call of its topmost FRAME, or at its start. */
    private void askKey(Run run, int key) {
        if (run.kind != Run.IN_THOUGHT) {
            time++;
        }
        if (recalls(run, key)) {
            return;
        }
        if (run.hasFrameOf(key)) {
            fail(run, BY_RING);
        } else if (run.kind != Run.BY_TASK || !meetsOther(run, key)) {
            beginFrame(run, key);
        }
    }

    private boolean recalls(Run run, int key) {
        if (run.kind == Run.IN_THOUGHT) {
            if (!thought.holds(key)) {
                return false;
            }
            run.give(key, thought.valueOf(key), 0);
            return true;
        }
        Kept row = store.find(key);
        if (row == null) {
            return false;
        }
        hits++;
        row.time = time;
        row.asks++;
        run.give(key, row.value, row.used);
        return true;
    }

    /** Whether another TASK runs the KEY: then this one waits for it, or fails by a ring. */
    private boolean meetsOther(Run run, int key) {
        for (int i = 0; i < TASKS; i++) {
            if (tasks[i] != run && tasks[i].hasFrameOf(key)) {
                if (waitsLeadTo(i, run)) {
                    fail(run, BY_RING);
                } else {
                    waitsBegun += run.state == WAITING ? 0 : 1;
                    run.waitFor(i, key);
                }
                return true;
            }
        }
        return false;
    }

    private boolean waitsLeadTo(int from, Run run) {
        int at = from;
        for (int i = 0; i < TASKS; i++) {
            if (!within(at, TASKS) || tasks[at].state != WAITING) {
                return false;
            }
            at = tasks[at].waitsFor;
            if (within(at, TASKS) && tasks[at] == run) {
                return true;
            }
        }
        return false;
    }

    private void beginFrame(Run run, int key) {
        if (run.depth >= FRAMES_MOST) {
            fail(run, BY_FRAMES);
            return;
        }
        Text text = within(key, KEYS) ? texts[key / ARGUMENTS] : null;
        if (text == null || !text.stands()) {
            fail(run, BY_NO_TEXT);
            return;
        }
        run.begin(key, text, time);
        if (run.kind != Run.IN_THOUGHT) {
            framesBegun++;
        }
    }

    /** Ends all FRAMES that are worked out: one that ends may end the one below it. */
    private void settle(Run run) {
        for (int i = 0; i < FRAMES_MOST && run.state == RUNNING; i++) {
            Frame top = run.top();
            if (top == null || !top.isWorkedOut()) {
                return;
            }
            run.depth--;
            if (run.kind == Run.IN_THOUGHT) {
                thought.hold(top.key, top.value());
            } else {
                store.keep(top, run.steps - top.stepsBefore);
                store.shrink();
            }
            run.give(top.key, top.value(), top.used);
        }
    }

    private void fail(Run run, int reason) {
        run.failBy(reason);
        if (run.kind != Run.IN_THOUGHT) {
            failures++;
        }
    }

    // ---- changes

    /** A CELL (0 ..) or a RULE (12 ..) is CHANGED: how many KEYS were THROWN OUT. */
    private int changed(int what) {
        int bit = 1 << what;
        for (Run run : tasks) {
            if (run.isBusy() && run.beginsAnew(bit)) {
                framesBegun++;
            }
        }
        return store.throwOut(bit);
    }

    // ---- the classes inside

    /** A RULE's TEXT as codes in the order in which its NODES are worked out; JUMP is no NODE. */
    private static final class Text {
        final int[] code = new int[TAPE_MOST];
        int size;
        int nodes;

        boolean stands() {
            return size > 0;
        }

        void empty() {
            size = 0;
            nodes = 0;
        }

        void become(Text other) {
            System.arraycopy(other.code, 0, code, 0, other.size);
            size = other.size;
            nodes = other.nodes;
        }

        void put(int op, int operand) {
            // Each byte of THE TAPE makes one code at most: there is always room.
            if (size < TAPE_MOST) {
                code[size] = (operand << 4) | op;
                size++;
                nodes += op == JUMP ? 0 : 1;
            }
        }

        void lead(int place, int target) {
            if (place >= 0 && place < size) {
                code[place] = (target << 4) | (code[place] & 15);
            }
        }

        /** Leads a chain of JUMPS to the end: each one's operand is the place behind the one before it. */
        void leadAll(int last) {
            int place = last - 1;
            for (int i = 0; i < TAPE_MOST && place >= 0 && place < size; i++) {
                int before = (code[place] >> 4) - 1;
                lead(place, size);
                place = before;
            }
        }
    }

    /** THE TAPE, and what makes a TEXT of it. */
    private static final class Reader {
        final int[] tape = new int[TAPE_MOST];
        final Text made = new Text();
        int size;
        int fault;
        private int at;
        private int number;

        boolean add(int letter) {
            if (size >= TAPE_MOST) {
                return false;
            }
            tape[size] = letter;
            size++;
            return true;
        }

        /** Makes a TEXT of THE TAPE and empties it; if it is none, the fault is told. */
        boolean readTape() {
            at = 0;
            made.empty();
            boolean good = readChoice(0) && (at == size || wrong(at));
            size = 0;
            return good;
        }

        private boolean wrong(int place) {
            fault = place;
            return false;
        }

        private int ahead() {
            return at < size && at < TAPE_MOST ? tape[at] : -1;
        }

        private boolean isDigit() {
            return ahead() >= '0' && ahead() <= '9';
        }

        /** Passes over the letter that is due, or finds a fault. */
        private boolean pass(int letter) {
            if (ahead() != letter) {
                return wrong(at);
            }
            at++;
            return true;
        }

        /** Passes over a letter that opens a part, unless as many are open as may be. */
        private boolean passOpening(int letter, int open) {
            if (ahead() != letter || open >= OPEN_MOST) {
                return wrong(at);
            }
            at++;
            return true;
        }

        /** E: what stands behind : is read by the same loop, as it is the rest of E. */
        private boolean readChoice(int open) {
            int lastJump = 0;
            for (int i = 0; i < TAPE_MOST; i++) {
                if (!readComparison(open)) {
                    return false;
                }
                if (ahead() != '?') {
                    made.leadAll(lastJump);
                    return true;
                }
                int choice = made.size;
                made.put(CHOICE, 0);
                if (!passOpening('?', open) || !readChoice(open + 1) || !pass(':')) {
                    return false;
                }
                made.put(JUMP, lastJump);
                lastJump = made.size;
                made.lead(choice, made.size);
            }
            return wrong(at);
        }

        private boolean readComparison(int open) {
            if (!readSum(open)) {
                return false;
            }
            int sign = ahead();
            if (sign != '<' && sign != '=') {
                return true;
            }
            at++;
            if (!readSum(open)) {
                return false;
            }
            made.put(sign == '<' ? LESS : EQUAL, 0);
            return true;
        }

        private boolean readSum(int open) {
            if (!readProduct(open)) {
                return false;
            }
            for (int i = 0; i < TAPE_MOST && (ahead() == '+' || ahead() == '-'); i++) {
                int sign = ahead();
                at++;
                if (!readProduct(open)) {
                    return false;
                }
                made.put(sign == '+' ? PLUS : MINUS, 0);
            }
            return true;
        }

        private boolean readProduct(int open) {
            if (!readUnit(open)) {
                return false;
            }
            for (int i = 0; i < TAPE_MOST && (ahead() == '*' || ahead() == '/'); i++) {
                int sign = ahead();
                at++;
                if (!readUnit(open)) {
                    return false;
                }
                made.put(sign == '*' ? TIMES : OVER, 0);
            }
            return true;
        }

        private boolean readUnit(int open) {
            switch (ahead()) {
                case 'x':
                    at++;
                    made.put(ARGUMENT, 0);
                    return true;
                case 'c':
                    if (!readIndex(CELLS)) {
                        return false;
                    }
                    made.put(CELL, number);
                    return true;
                case 'f':
                    return readCall(open);
                case '-':
                    if (!passOpening('-', open) || !readUnit(open + 1)) {
                        return false;
                    }
                    made.put(NEGATE, 0);
                    return true;
                case '(':
                    return readBracket(open);
                default:
                    if (!readNumber()) {
                        return false;
                    }
                    made.put(NUMBER, number);
                    return true;
            }
        }

        private boolean readCall(int open) {
            if (!readIndex(RULES)) {
                return false;
            }
            int called = number;
            if (!readBracket(open)) {
                return false;
            }
            made.put(CALL, called);
            return true;
        }

        private boolean readBracket(int open) {
            return passOpening('(', open) && readChoice(open + 1) && pass(')');
        }

        /** The number behind c or f. */
        private boolean readIndex(int numbers) {
            at++;
            int place = at;
            if (!readNumber()) {
                return false;
            }
            return number < numbers || wrong(place);
        }

        private boolean readNumber() {
            if (!isDigit()) {
                return wrong(at);
            }
            number = ahead() - '0';
            at++;
            if (isDigit()) {
                number = 10 * number + ahead() - '0';
                at++;
            }
            return true;
        }
    }

    /** A KEY that runs: how far it is worked out, and what it read and asked so far. */
    private static final class Frame {
        final int[] asked = new int[CALLS_MOST];
        final int[] parts = new int[PARTS_MOST];
        Text text;
        int key;
        int time;
        int stepsBefore;
        int at;
        int used;
        int askedSize;
        int partsSize;

        void begin(int steps) {
            stepsBefore = steps;
            at = 0;
            used = 1 << (CELLS + key / ARGUMENTS);
            askedSize = 0;
            partsSize = 0;
        }

        boolean hasText() {
            return text != null && text.stands();
        }

        int argument() {
            return key % ARGUMENTS - ARGUMENT_MOST;
        }

        int fetch() {
            if (text == null || at < 0 || at >= text.size) {
                return 0;
            }
            int code = text.code[at];
            at++;
            return code;
        }

        void push(int value) {
            if (partsSize < PARTS_MOST) {
                parts[partsSize] = value;
                partsSize++;
            }
        }

        int pop() {
            if (partsSize <= 0) {
                return 0;
            }
            partsSize--;
            return parts[partsSize];
        }

        int value() {
            return partsSize > 0 ? parts[partsSize - 1] : 0;
        }

        /** Its call has the VALUE of the KEY that it asked. */
        void noteAsked(int askedKey, int usedByIt) {
            used |= usedByIt;
            for (int i = 0; i < askedSize; i++) {
                if (asked[i] == askedKey) {
                    return;
                }
            }
            if (askedSize < CALLS_MOST) {
                asked[askedSize] = askedKey;
                askedSize++;
            }
        }

        /** JUMPS are no STEPS: they are passed over as soon as they stand ahead. */
        boolean isWorkedOut() {
            if (!hasText()) {
                return false;
            }
            for (int i = 0; i < TAPE_MOST && at >= 0 && at < text.size; i++) {
                if ((text.code[at] & 15) != JUMP) {
                    return false;
                }
                at = text.code[at] >> 4;
            }
            return true;
        }
    }

    /** An ASK, one in thought, or a TASK. */
    private static final class Run {
        static final int BY_TASK = 0;
        static final int BY_ASK = 1;
        static final int IN_THOUGHT = 2;

        final Frame[] frames = new Frame[FRAMES_MOST];
        int kind;
        int state;
        int depth;
        int steps;
        int waitsFor;
        int waitsForKey;
        private int value;
        private int reason;

        Run() {
            for (int i = 0; i < FRAMES_MOST; i++) {
                frames[i] = new Frame();
            }
        }

        void renew(int newKind) {
            kind = newKind;
            state = IDLE;
            depth = 0;
            steps = 0;
        }

        boolean isBusy() {
            return state == RUNNING || state == WAITING;
        }

        Frame top() {
            return depth > 0 && depth <= FRAMES_MOST ? frames[depth - 1] : null;
        }

        boolean hasFrameOf(int key) {
            for (int i = 0; i < depth && i < FRAMES_MOST; i++) {
                if (frames[i].key == key) {
                    return true;
                }
            }
            return false;
        }

        void begin(int key, Text text, int time) {
            if (depth < 0 || depth >= FRAMES_MOST) {
                return;
            }
            Frame frame = frames[depth];
            depth++;
            frame.key = key;
            frame.text = text;
            frame.time = time;
            frame.begin(steps);
            state = RUNNING;
        }

        /** The undermost FRAME that used what is changed begins anew; whether there is one. */
        boolean beginsAnew(int bit) {
            for (int i = 0; i < depth && i < FRAMES_MOST; i++) {
                if ((frames[i].used & bit) != 0) {
                    frames[i].begin(steps);
                    depth = i + 1;
                    state = RUNNING;
                    return true;
                }
            }
            return false;
        }

        /** The KEY that was asked has its VALUE: the topmost FRAME's call takes it, or the run ends. */
        void give(int key, int itsValue, int itsUsed) {
            Frame top = top();
            if (top == null) {
                state = ENDED;
                value = itsValue;
                return;
            }
            state = RUNNING;
            top.push(itsValue);
            top.noteAsked(key, itsUsed);
        }

        void waitFor(int task, int key) {
            state = WAITING;
            waitsFor = task;
            waitsForKey = key;
        }

        void failBy(int newReason) {
            state = FAILED;
            reason = newReason;
            depth = 0;
        }

        int outcome() {
            return state == FAILED ? -10000 - reason : value;
        }
    }

    /** What a run in thought has worked out: kept by nothing but itself. */
    private static final class Thought {
        private final int[] values = new int[KEYS];
        private final int[] heldIn = new int[KEYS];
        private int round;

        /** A new round forgets all at once, without a walk over all KEYS. */
        void forget() {
            round++;
        }

        boolean holds(int key) {
            return key >= 0 && key < KEYS && heldIn[key] == round;
        }

        int valueOf(int key) {
            return key >= 0 && key < KEYS ? values[key] : 0;
        }

        void hold(int key, int value) {
            if (key >= 0 && key < KEYS) {
                values[key] = value;
                heldIn[key] = round;
            }
        }
    }

    /** A KEPT KEY. */
    private static final class Kept {
        final int[] asked = new int[CALLS_MOST];
        int key;
        int value;
        int cost;
        int weight;
        int time;
        int asks;
        int used;
        int askedSize;
        // What heirsOf and chainFrom note of it while they work.
        int mark;

        void fill(Frame ended, int itsCost) {
            key = ended.key;
            value = ended.value();
            cost = itsCost;
            time = ended.time;
            asks = 1;
            used = ended.used;
            askedSize = ended.askedSize;
            System.arraycopy(ended.asked, 0, asked, 0, askedSize);
            weight = 2 + digits(Math.abs(value)) + askedSize;
        }

        private static int digits(int n) {
            if (n > 999) {
                return 4;
            }
            if (n > 99) {
                return 3;
            }
            return n > 9 ? 2 : 1;
        }

        int tell(int what) {
            switch (what) {
                case 0:
                    return value;
                case 1:
                    return cost;
                case 2:
                    return weight;
                case 3:
                    return time;
                case 4:
                    return asks;
                case 5:
                    return askedSize;
                default:
                    return used;
            }
        }

        int worth(int policy) {
            switch (policy) {
                case 0:
                    return time;
                case 1:
                    return asks;
                case 2:
                    return cost;
                default:
                    return -weight;
            }
        }
    }

    /** All KEPT KEYS, and THE WAVE of those thrown out latest. */
    private static final class Store {
        // The first ones are KEPT, in the order in which they were; the others are free for use.
        final Kept[] rows = new Kept[ROWS];
        final int[] wave = new int[ROWS];
        int size;
        int weights;
        int waveSize;
        int bound = 60;
        int policy;
        int thrownOut;
        int wentByBound;
        int everKept;
        private final Kept[] byKey = new Kept[KEYS];

        Store() {
            for (int i = 0; i < ROWS; i++) {
                rows[i] = new Kept();
            }
        }

        Kept find(int key) {
            return key >= 0 && key < KEYS ? byKey[key] : null;
        }

        int byNumber(int i) {
            int left = i;
            for (Kept row : byKey) {
                if (row != null) {
                    if (left == 0) {
                        return row.key;
                    }
                    left--;
                }
            }
            return NOT;
        }

        // A row is always free for it, as shrink() follows each time.
        void keep(Frame ended, int cost) {
            if (find(ended.key) != null || !within(ended.key, KEYS) || size >= ROWS) {
                return;
            }
            Kept row = rows[size];
            size++;
            row.fill(ended, cost);
            byKey[row.key] = row;
            weights += row.weight;
            everKept++;
        }

        void shrink() {
            for (int i = 0; i < ROWS && size > 0 && weights > bound; i++) {
                remove(leastWorth());
                wentByBound++;
            }
        }

        /** The place of the KEY that is worth least; the least KEY of like ones. */
        int leastWorth() {
            int least = 0;
            for (int i = 1; i < size && i < ROWS; i++) {
                int mine = rows[i].worth(policy);
                int its = rows[least].worth(policy);
                if (mine < its || (mine == its && rows[i].key < rows[least].key)) {
                    least = i;
                }
            }
            return least;
        }

        private void remove(int place) {
            if (place < 0 || place >= size) {
                return;
            }
            Kept gone = rows[place];
            byKey[gone.key] = null;
            weights -= gone.weight;
            size--;
            for (int i = place; i < size; i++) {
                rows[i] = rows[i + 1];
            }
            rows[size] = gone;
        }

        int throwOut(int bit) {
            waveSize = 0;
            int place = 0;
            for (int left = size; left > 0; left--) {
                if ((rows[place].used & bit) == 0) {
                    place++;
                } else {
                    wave[waveSize] = rows[place].key;
                    waveSize++;
                    remove(place);
                }
            }
            thrownOut += waveSize;
            return waveSize;
        }

        int empty() {
            int had = size;
            for (int i = 0; i < had; i++) {
                byKey[rows[i].key] = null;
            }
            size = 0;
            weights = 0;
            return had;
        }

        int users(int bit) {
            int n = 0;
            for (int i = 0; i < size; i++) {
                if ((rows[i].used & bit) != 0) {
                    n++;
                }
            }
            return n;
        }

        int heirsOf(Kept of) {
            markAll(0);
            of.mark = 1;
            int heirs = 0;
            int found = 1;
            // Each walk but the last finds one at least.
            for (int walk = 0; walk < ROWS && found > 0; walk++) {
                found = 0;
                for (int i = 0; i < size; i++) {
                    if (rows[i].mark == 0 && mostMarkAsked(rows[i]) > 0) {
                        rows[i].mark = 1;
                        found++;
                    }
                }
                heirs += found;
            }
            return heirs;
        }

        int chainFrom(Kept from) {
            markAll(1);
            boolean grew = true;
            // After as many walks as a row's chain is long, its mark is its length.
            for (int walk = 0; walk < ROWS && grew; walk++) {
                grew = false;
                for (int i = 0; i < size; i++) {
                    int length = 1 + mostMarkAsked(rows[i]);
                    if (length > rows[i].mark) {
                        rows[i].mark = length;
                        grew = true;
                    }
                }
            }
            return from.mark;
        }

        private void markAll(int mark) {
            for (int i = 0; i < size; i++) {
                rows[i].mark = mark;
            }
        }

        /** The greatest mark of those that this one ASKED and that are KEPT; 0 if there are none. */
        private int mostMarkAsked(Kept row) {
            int most = 0;
            for (int i = 0; i < row.askedSize; i++) {
                Kept asked = find(row.asked[i]);
                if (asked != null && asked.mark > most) {
                    most = asked.mark;
                }
            }
            return most;
        }
    }
}
