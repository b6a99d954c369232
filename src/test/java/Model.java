import java.util.ArrayList;
import java.util.HashMap;
import java.util.HashSet;
import java.util.LinkedHashMap;
import java.util.LinkedHashSet;
import java.util.List;
import java.util.Map;
import java.util.Set;

/**
 * The document once more, built in another way: texts are checked by a walk with a pile of open
 * parts and become trees; ASK and FRESH are plain recursion; a TASK's FRAME is only the number of its
 * STEPS and the VALUES it got, and is worked out from its beginning again for each STEP.
 */
final class Model {
    static final int BAD = -20001, NOT = -20002, STATE = -20003, FULL = -20004;

    record Node(char kind, int n, Node a, Node b, Node c) {}

    static final class Fails extends RuntimeException {
        private static final long serialVersionUID = 1L;
        final int by;
        Fails(int by) {
            super(null, null, false, false);
            this.by = by;
        }
    }

    /** A TASK's STEPS are done for now: ahead of a NODE, or (with a key) behind the STEP of a call. */
    static final class Pause extends RuntimeException {
        private static final long serialVersionUID = 1L;
        final int key;
        Pause(int key) {
            super(null, null, false, false);
            this.key = key;
        }
    }

    record Worked(int value, int used) {}

    static final class Entry {
        int value, cost, time, asks, used;
        List<Integer> asked = new ArrayList<>();
        int weight() {
            return 2 + Integer.toString(Math.abs(value)).length() + asked.size();
        }
    }

    static final class Frame {
        int key, time, base, done;
        List<Integer> keys = new ArrayList<>();
        List<Worked> got = new ArrayList<>();
        void anew(int steps) {
            base = steps;
            done = 0;
            keys.clear();
            got.clear();
        }
    }

    static final class Task {
        int state, steps, result, waitsFor, waitsKey;
        List<Frame> frames = new ArrayList<>();
        boolean busy() {
            return state == 1 || state == 2;
        }
    }

    final int[] cells = new int[12];
    final Node[] texts = new Node[12];
    final StringBuilder tape = new StringBuilder();
    final LinkedHashMap<Integer, Entry> kept = new LinkedHashMap<>();
    List<Integer> wave = new ArrayList<>();
    final Task[] tasks = {new Task(), new Task(), new Task(), new Task()};
    final int[] led = new int[7];
    int bound = 60, policy, time, latest;

    // ---- texts

    int at;

    /** -1 if it is a TEXT, else the FAULT. */
    static int faultOf(String s) {
        List<int[]> open = new ArrayList<>(); // {sign, whether < or = was used by what surrounds it}
        boolean compared = false, operand = true;
        int i = 0;
        while (i < s.length()) {
            char c = s.charAt(i);
            if (operand) {
                if (c == '-' || c == '(') {
                    if (open.size() == 5) {
                        return i;
                    }
                    open.add(new int[] {c, compared ? 1 : 0});
                    if (c == '(') {
                        compared = false;
                    }
                    i++;
                    continue;
                }
                if (c == 'c' || c == 'f') {
                    int end = i + 1;
                    while (end < s.length() && end < i + 3 && Character.isDigit(s.charAt(end))) {
                        end++;
                    }
                    if (end == i + 1) {
                        return end;
                    }
                    if (Integer.parseInt(s.substring(i + 1, end)) > 11) {
                        return i + 1;
                    }
                    i = end;
                    if (c == 'f') {
                        if (i == s.length() || s.charAt(i) != '(' || open.size() == 5) {
                            return i;
                        }
                        open.add(new int[] {'(', compared ? 1 : 0});
                        compared = false;
                        i++;
                        continue;
                    }
                } else if (c == 'x') {
                    i++;
                } else if (c >= '0' && c <= '9') {
                    i++;
                    if (i < s.length() && s.charAt(i) >= '0' && s.charAt(i) <= '9') {
                        i++;
                    }
                } else {
                    return i;
                }
                operand = false;
                closeSigns(open);
                continue;
            }
            int top = open.isEmpty() ? 0 : open.get(open.size() - 1)[0];
            if ("+-*/".indexOf(c) >= 0) {
                operand = true;
            } else if ((c == '<' || c == '=') && !compared) {
                compared = true;
                operand = true;
            } else if (c == '?') {
                if (open.size() == 5) {
                    return i;
                }
                open.add(new int[] {'?', 0});
                compared = false;
                operand = true;
            } else if (c == ':' && top == '?') {
                open.remove(open.size() - 1);
                compared = false;
                operand = true;
            } else if (c == ')' && top == '(') {
                compared = open.remove(open.size() - 1)[1] == 1;
                closeSigns(open);
            } else {
                return i;
            }
            i++;
        }
        return operand || !open.isEmpty() ? s.length() : -1;
    }

    private static void closeSigns(List<int[]> open) {
        while (!open.isEmpty() && open.get(open.size() - 1)[0] == '-') {
            open.remove(open.size() - 1);
        }
    }

    /** The tree of a TEXT without a FAULT. */
    private Node tree(String s) {
        at = 0;
        return treeE(s);
    }

    private char peek(String s) {
        return at < s.length() ? s.charAt(at) : 0;
    }

    private Node treeE(String s) {
        Node t = binary(s, 0);
        if (peek(s) != '?') {
            return t;
        }
        at++;
        Node a = treeE(s);
        at++;
        return new Node('?', 0, t, a, treeE(s));
    }

    private static final String[] LEVELS = {"<=", "+-", "*/"};

    private Node binary(String s, int level) {
        if (level == 3) {
            return unit(s);
        }
        Node left = binary(s, level + 1);
        while (peek(s) != 0 && LEVELS[level].indexOf(peek(s)) >= 0) {
            char sign = s.charAt(at++);
            left = new Node(sign, 0, left, binary(s, level + 1), null);
        }
        return left;
    }

    private Node unit(String s) {
        char c = s.charAt(at);
        if (Character.isDigit(c)) {
            return new Node('n', digits(s), null, null, null);
        }
        at++;
        switch (c) {
            case 'x':
                return new Node('x', 0, null, null, null);
            case 'c':
                return new Node('c', digits(s), null, null, null);
            case '-':
                return new Node('~', 0, unit(s), null, null);
            case 'f': {
                int f = digits(s);
                at++;
                Node argument = treeE(s);
                at++;
                return new Node('f', f, argument, null, null);
            }
            default: {
                Node in = treeE(s);
                at++;
                return in;
            }
        }
    }

    private int digits(String s) {
        int n = 0;
        while (Character.isDigit(peek(s))) {
            n = 10 * n + s.charAt(at++) - '0';
        }
        return n;
    }

    private static int nodes(Node t) {
        return t == null ? 0 : 1 + nodes(t.a) + nodes(t.b) + nodes(t.c);
    }

    // ---- working out

    /** What differs between ASK, FRESH and TASKS. */
    interface Ways {
        void step();
        Worked call(int key);
    }

    private int value(Node t, int x, Ways ways, int[] used) {
        switch (t.kind) {
            case '?': {
                boolean yes = value(t.a, x, ways, used) != 0;
                ways.step();
                return value(yes ? t.b : t.c, x, ways, used);
            }
            case 'f': {
                int argument = value(t.a, x, ways, used);
                ways.step();
                if (argument < -50 || argument > 50) {
                    throw new Fails(3);
                }
                Worked got = ways.call(101 * t.n + argument + 50);
                used[0] |= got.used;
                return got.value;
            }
            default: {
                int a = t.a == null ? 0 : value(t.a, x, ways, used);
                int b = t.b == null ? 0 : value(t.b, x, ways, used);
                ways.step();
                int v = node(t, x, a, b, used);
                if (Math.abs(v) > 9999) {
                    throw new Fails(3);
                }
                return v;
            }
        }
    }

    private int node(Node t, int x, int a, int b, int[] used) {
        switch (t.kind) {
            case 'n':
                return t.n;
            case 'x':
                return x;
            case 'c':
                used[0] |= 1 << t.n;
                return cells[t.n];
            case '~':
                return -a;
            case '+':
                return a + b;
            case '-':
                return a - b;
            case '*':
                return a * b;
            case '/':
                if (b == 0) {
                    throw new Fails(2);
                }
                return a / b;
            case '<':
                return a < b ? 1 : 0;
            default:
                return a == b ? 1 : 0;
        }
    }

    private static int argument(int key) {
        return key % 101 - 50;
    }

    private static int ruleBit(int key) {
        return 1 << (12 + key / 101);
    }

    // ---- ASK and FRESH

    private int stepsOfRun;

    private final class Asking {
        final boolean thought;
        final Map<Integer, Integer> inThought = new HashMap<>();
        final Set<Integer> stand = new HashSet<>();

        Asking(boolean thought) {
            this.thought = thought;
        }

        Worked ask(int key) {
            if (!thought) {
                time++;
                if (kept.containsKey(key)) {
                    return hit(key);
                }
            } else if (inThought.containsKey(key)) {
                return new Worked(inThought.get(key), 0);
            }
            int asked = time;
            if (stand.contains(key)) {
                throw new Fails(1);
            }
            if (stand.size() == 30) {
                throw new Fails(4);
            }
            if (texts[key / 101] == null) {
                throw new Fails(5);
            }
            stand.add(key);
            if (!thought) {
                led[1]++;
            }
            int before = stepsOfRun;
            int[] used = {ruleBit(key)};
            LinkedHashSet<Integer> keys = new LinkedHashSet<>();
            int v = value(texts[key / 101], argument(key), new Ways() {
                public void step() {
                    if (stepsOfRun == 2000) {
                        throw new Fails(6);
                    }
                    stepsOfRun++;
                }
                public Worked call(int called) {
                    Worked got = ask(called);
                    keys.add(called);
                    return got;
                }
            }, used);
            stand.remove(key);
            if (thought) {
                inThought.put(key, v);
            } else {
                keep(key, v, stepsOfRun - before, asked, used[0], keys);
            }
            return new Worked(v, used[0]);
        }
    }

    private Worked hit(int key) {
        Entry e = kept.get(key);
        led[0]++;
        e.time = time;
        e.asks++;
        return new Worked(e.value, e.used);
    }

    private void keep(int key, int v, int cost, int asked, int used, Iterable<Integer> keys) {
        if (kept.containsKey(key)) {
            return;
        }
        Entry e = new Entry();
        e.value = v;
        e.cost = cost;
        e.time = asked;
        e.asks = 1;
        e.used = used;
        for (int k : keys) {
            if (!e.asked.contains(k)) {
                e.asked.add(k);
            }
        }
        kept.put(key, e);
        led[5]++;
        shrink();
    }

    private int weights() {
        return kept.values().stream().mapToInt(Entry::weight).sum();
    }

    private void shrink() {
        while (weights() > bound) {
            kept.remove(next());
            led[4]++;
        }
    }

    int ask(int rule, int argument) {
        if (noKey(rule, argument)) {
            return BAD;
        }
        stepsOfRun = 0;
        int answer;
        try {
            answer = new Asking(false).ask(101 * rule + argument + 50).value;
        } catch (Fails f) {
            led[2]++;
            answer = -10000 - f.by;
        }
        latest = stepsOfRun;
        return answer;
    }

    int fresh(int rule, int argument) {
        if (noKey(rule, argument)) {
            return BAD;
        }
        stepsOfRun = 0;
        try {
            return new Asking(true).ask(101 * rule + argument + 50).value;
        } catch (Fails f) {
            return -10000 - f.by;
        }
    }

    private static boolean noKey(int rule, int argument) {
        return rule < 0 || rule > 11 || argument < -50 || argument > 50;
    }

    // ---- TASKS

    /** Works a FRAME out from its beginning, for as many STEPS as it may do. */
    private Worked replay(Frame f, int may, int[] used) {
        int[] did = new int[2];
        used[0] |= ruleBit(f.key);
        int v = value(texts[f.key / 101], argument(f.key), new Ways() {
            public void step() {
                if (did[0] == may) {
                    throw new Pause(-1);
                }
                did[0]++;
            }
            public Worked call(int called) {
                if (did[1] == f.got.size()) {
                    throw new Pause(called);
                }
                return f.got.get(did[1]++);
            }
        }, used);
        return new Worked(v, used[0]);
    }

    private void failTask(Task t, int by) {
        t.frames.clear();
        t.state = 4;
        t.result = -10000 - by;
        led[2]++;
    }

    private Frame top(Task t) {
        return t.frames.get(t.frames.size() - 1);
    }

    private void deliver(Task t, int key, Worked got) {
        t.state = 1;
        if (t.frames.isEmpty()) {
            t.state = 3;
            t.result = got.value;
            return;
        }
        top(t).keys.add(key);
        top(t).got.add(got);
        tryEnd(t);
    }

    private void tryEnd(Task t) {
        Frame f = top(t);
        Worked w;
        try {
            w = replay(f, f.done, new int[1]);
        } catch (Pause p) {
            return;
        }
        t.frames.remove(t.frames.size() - 1);
        keep(f.key, w.value, t.steps - f.base, f.time, w.used, f.keys);
        deliver(t, f.key, w);
    }

    private boolean has(Task t, int key) {
        return t.frames.stream().anyMatch(f -> f.key == key);
    }

    private void taskAsks(Task t, int key) {
        time++;
        if (kept.containsKey(key)) {
            deliver(t, key, hit(key));
            return;
        }
        if (has(t, key)) {
            failTask(t, 1);
            return;
        }
        for (int i = 0; i < 4; i++) {
            if (tasks[i] != t && has(tasks[i], key)) {
                Task other = tasks[i];
                for (int hops = 0; hops < 5 && other.state == 2; hops++) {
                    other = tasks[other.waitsFor];
                    if (other == t) {
                        failTask(t, 1);
                        return;
                    }
                }
                if (t.state != 2) {
                    led[6]++;
                }
                t.state = 2;
                t.waitsFor = i;
                t.waitsKey = key;
                return;
            }
        }
        if (t.frames.size() == 30) {
            failTask(t, 4);
        } else if (texts[key / 101] == null) {
            failTask(t, 5);
        } else {
            Frame f = new Frame();
            f.key = key;
            f.time = time;
            f.anew(t.steps);
            t.frames.add(f);
            t.state = 1;
            led[1]++;
        }
    }

    private void oneStep(Task t) {
        if (t.steps == 2000) {
            failTask(t, 6);
            return;
        }
        Frame f = top(t);
        t.steps++;
        f.done++;
        try {
            replay(f, f.done, new int[1]);
        } catch (Pause p) {
            if (p.key >= 0) {
                taskAsks(t, p.key);
            }
            return;
        } catch (Fails e) {
            failTask(t, e.by);
            return;
        }
        tryEnd(t);
    }

    private int usedSoFar(Frame f) {
        int[] used = {ruleBit(f.key)};
        try {
            replay(f, f.done, used);
        } catch (Pause p) {
            return used[0];
        }
        return used[0];
    }

    int start(int task, int rule, int argument) {
        if (task < 0 || task > 3 || noKey(rule, argument)) {
            return BAD;
        }
        Task t = tasks[task];
        if (t.busy()) {
            return STATE;
        }
        t.steps = 0;
        t.state = 0;
        taskAsks(t, 101 * rule + argument + 50);
        return t.state;
    }

    int step(int task, int n) {
        if (task < 0 || task > 3 || n < 1 || n > 100) {
            return BAD;
        }
        Task t = tasks[task];
        if (!t.busy()) {
            return STATE;
        }
        int before = t.steps;
        if (t.state == 2) {
            taskAsks(t, t.waitsKey);
        } else if (texts[top(t).key / 101] == null) {
            failTask(t, 5);
        }
        while (t.state == 1 && t.steps - before < n) {
            oneStep(t);
        }
        return t.steps - before;
    }

    int stop(int task) {
        if (task < 0 || task > 3) {
            return BAD;
        }
        Task t = tasks[task];
        if (!t.busy()) {
            return STATE;
        }
        int had = t.frames.size();
        tasks[task] = new Task();
        return had;
    }

    int task(int task, int what) {
        if (task < 0 || task > 3 || what < 0 || what > 5) {
            return BAD;
        }
        Task t = tasks[task];
        int[] tells = {t.state, t.state >= 3 ? t.result : NOT, t.frames.size(), t.steps,
            t.state == 2 ? t.waitsFor : NOT, t.state == 2 ? t.waitsKey : NOT};
        return tells[what];
    }

    int frame(int task, int i) {
        if (task < 0 || task > 3 || i < 0) {
            return BAD;
        }
        return i < tasks[task].frames.size() ? tasks[task].frames.get(i).key : NOT;
    }

    // ---- changes

    /** What used it is looked for ahead of the change: a FRAME is worked out by what stood then. */
    private Frame[] undermost(int bit) {
        Frame[] found = new Frame[4];
        for (int i = 0; i < 4; i++) {
            for (Frame f : tasks[i].frames) {
                boolean uses = (ruleBit(f.key) & bit) != 0
                    || (texts[f.key / 101] != null && (usedSoFar(f) & bit) != 0);
                if (uses) {
                    found[i] = f;
                    break;
                }
            }
        }
        return found;
    }

    private int change(int bit, Frame[] found) {
        for (int i = 0; i < 4; i++) {
            Task t = tasks[i];
            if (found[i] != null) {
                while (top(t) != found[i]) {
                    t.frames.remove(t.frames.size() - 1);
                }
                found[i].anew(t.steps);
                t.state = 1;
                led[1]++;
            }
        }
        wave = new ArrayList<>();
        for (Map.Entry<Integer, Entry> e : kept.entrySet()) {
            if ((e.getValue().used & bit) != 0) {
                wave.add(e.getKey());
            }
        }
        kept.keySet().removeAll(wave);
        led[3] += wave.size();
        return wave.size();
    }

    int feed(int letter) {
        if (letter < 0 || letter > 255) {
            return BAD;
        }
        if (tape.length() == 100) {
            return FULL;
        }
        tape.append((char) letter);
        return tape.length();
    }

    int rule(int rule) {
        if (rule < 0 || rule > 11) {
            return BAD;
        }
        String s = tape.toString();
        tape.setLength(0);
        int fault = faultOf(s);
        if (fault >= 0) {
            return -100 - fault;
        }
        Frame[] found = undermost(1 << (12 + rule));
        texts[rule] = tree(s);
        change(1 << (12 + rule), found);
        return nodes(texts[rule]);
    }

    int drop(int rule) {
        if (rule < 0 || rule > 11) {
            return BAD;
        }
        if (texts[rule] == null) {
            return STATE;
        }
        Frame[] found = undermost(1 << (12 + rule));
        texts[rule] = null;
        return change(1 << (12 + rule), found);
    }

    int set(int cell, int v) {
        if (cell < 0 || cell > 11 || v < -99 || v > 99) {
            return BAD;
        }
        if (cells[cell] == v) {
            return 0;
        }
        Frame[] found = undermost(1 << cell);
        cells[cell] = v;
        return change(1 << cell, found);
    }

    int cell(int cell) {
        return cell < 0 || cell > 11 ? BAD : cells[cell];
    }

    // ---- what is kept

    int bound(int n) {
        if (n < 1 || n > 300) {
            return BAD;
        }
        int was = bound;
        bound = n;
        shrink();
        return was;
    }

    int policy(int p) {
        if (p < 0 || p > 3) {
            return BAD;
        }
        int was = policy;
        policy = p;
        return was;
    }

    private static boolean noKey(int key) {
        return key < 0 || key > 1211;
    }

    int kept(int key, int what) {
        if (noKey(key) || what < 0 || what > 6) {
            return BAD;
        }
        Entry e = kept.get(key);
        if (e == null) {
            return NOT;
        }
        int[] tells = {e.value, e.cost, e.weight(), e.time, e.asks, e.asked.size(), e.used};
        return tells[what];
    }

    int asked(int key, int i) {
        if (noKey(key) || i < 0) {
            return BAD;
        }
        Entry e = kept.get(key);
        return e == null || i >= e.asked.size() ? NOT : e.asked.get(i);
    }

    int key(int way, int i) {
        if (way < 0 || way > 1 || i < 0) {
            return BAD;
        }
        List<Integer> keys = new ArrayList<>(kept.keySet());
        if (way == 0) {
            keys.sort(null);
        }
        return i < keys.size() ? keys.get(i) : NOT;
    }

    int wave(int i) {
        return i < 0 ? BAD : i < wave.size() ? wave.get(i) : NOT;
    }

    int would(int what) {
        return what < 0 || what > 23 ? BAD
            : (int) kept.values().stream().filter(e -> (e.used >> what & 1) == 1).count();
    }

    int heirs(int key) {
        if (noKey(key)) {
            return BAD;
        }
        if (!kept.containsKey(key)) {
            return NOT;
        }
        return (int) kept.keySet().stream().filter(k -> k != key && below(k, new HashSet<>()).contains(key)).count();
    }

    private Set<Integer> below(int key, Set<Integer> found) {
        for (int k : kept.get(key).asked) {
            if (kept.containsKey(k) && found.add(k)) {
                below(k, found);
            }
        }
        return found;
    }

    int chain(int key) {
        return noKey(key) ? BAD : !kept.containsKey(key) ? NOT : length(key, new HashMap<>());
    }

    private int length(int key, Map<Integer, Integer> known) {
        Integer n = known.get(key);
        if (n == null) {
            n = 1;
            for (int k : kept.get(key).asked) {
                if (kept.containsKey(k)) {
                    n = Math.max(n, 1 + length(k, known));
                }
            }
            known.put(key, n);
        }
        return n;
    }

    int next() {
        int best = NOT;
        long bestWorth = Long.MAX_VALUE;
        for (Map.Entry<Integer, Entry> e : kept.entrySet()) {
            Entry k = e.getValue();
            long worth = new int[] {k.time, k.asks, k.cost, -k.weight()}[policy] * 10000L + e.getKey();
            if (worth < bestWorth) {
                bestWorth = worth;
                best = e.getKey();
            }
        }
        return best;
    }

    int clear() {
        int n = kept.size();
        kept.clear();
        return n;
    }

    int led(int what) {
        return what < 0 || what > 6 ? BAD : led[what];
    }

    int count(int what) {
        int busy = 0;
        int ruled = 0;
        for (Task t : tasks) {
            busy += t.busy() ? 1 : 0;
        }
        for (Node t : texts) {
            ruled += t != null ? 1 : 0;
        }
        return what < 0 || what > 5 ? BAD : new int[] {kept.size(), weights(), ruled, tape.length(), time, busy}[what];
    }

    int call(String name, int... n) {
        return switch (name) {
            case "feed" -> feed(n[0]);
            case "rule" -> rule(n[0]);
            case "drop" -> drop(n[0]);
            case "set" -> set(n[0], n[1]);
            case "cell" -> cell(n[0]);
            case "ask" -> ask(n[0], n[1]);
            case "fresh" -> fresh(n[0], n[1]);
            case "steps" -> latest;
            case "bound" -> bound(n[0]);
            case "policy" -> policy(n[0]);
            case "kept" -> kept(n[0], n[1]);
            case "asked" -> asked(n[0], n[1]);
            case "key" -> key(n[0], n[1]);
            case "wave" -> wave(n[0]);
            case "would" -> would(n[0]);
            case "heirs" -> heirs(n[0]);
            case "chain" -> chain(n[0]);
            case "next" -> next();
            case "clear" -> clear();
            case "start" -> start(n[0], n[1], n[2]);
            case "step" -> step(n[0], n[1]);
            case "stop" -> stop(n[0]);
            case "task" -> task(n[0], n[1]);
            case "frame" -> frame(n[0], n[1]);
            case "led" -> led(n[0]);
            case "count" -> count(n[0]);
            default -> throw new IllegalArgumentException(name);
        };
    }
}
