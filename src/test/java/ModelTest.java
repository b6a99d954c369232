import java.util.ArrayList;
import java.util.Arrays;
import java.util.List;
import java.util.Random;

/** Long made-up runs of calls: the class and the Model must answer alike, and look alike after each call. */
public final class ModelTest {
    private static final String[] NAMES = {"set", "set", "ask", "ask", "ask", "fresh", "bound", "policy", "start",
        "start", "start", "step", "step", "step", "step", "step", "step", "step", "step", "stop", "drop", "text",
        "text", "clear", "ask", "step", "start", "set"};
    private static final int[] WILD = {Integer.MIN_VALUE, -101, -51, -1, 0, 1, 4, 7, 12, 24, 51, 100, 101, 256, 301,
        1212, Integer.MAX_VALUE};
    private static final String[] TEXTS = {"x<1?0:x+f%(x-1)", "x<2?x:f%(x-1)+f%(x-2)", "f%(x)+c%", "f%(x-1)*c%+c%",
        "x/c%", "c%<x?f%(x/2):f%(c%)", "f%(x+1)", "x", "7", "c%", "f%(f%(f%(x)))", "x<40?f%(x+1)+f%(x+2):c%",
        "c%?f%(x):f%(-x)", "x*x*x", "x<1?c%:f%(x-1)+x-x+x-x+x-x+x-x+x-x+x-x", "f%(1)+f%(2)+f%(3)+f%(4)+c%",
        "f%(c%)+f%(x)+f%(c%)", "x=c%?x:c%<x?f%(x-1):f%(x+1)"};
    private static final String[] LEAVES = {"x", "c%", "x+c%*c%", "x<1?0:x+f%(x-1)", "x<2?x:f%(x-1)+f%(x-2)+c%"};

    private final Random random;
    private final MemoByWeight x = new MemoByWeight();
    private final Model model = new Model();
    private final List<String> told = new ArrayList<>();
    private final int reach;
    // Rules that call only lesser ones make fewer rings: more runs come to their ends.
    private final boolean layered;
    // One call of so many has any numbers at all.
    private final int tame;
    private boolean good = true;
    private boolean looking;

    private ModelTest(long seed) {
        random = new Random(seed);
        reach = 1 + random.nextInt(6);
        layered = random.nextBoolean();
        tame = seed % 5 == 0 ? 3 : 200;
    }

    public static void main(String[] args) {
        int runs = args.length > 0 ? Integer.parseInt(args[0]) : 1500;
        for (int seed = 0; seed < runs; seed++) {
            new ModelTest(seed).go(seed);
        }
        texts();
        Script.end();
    }

    private void go(long seed) {
        for (int i = 0; i < reach && good; i++) {
            text(i);
        }
        for (int i = 0; i < 300 && good; i++) {
            one();
            looking = true;
            look();
            looking = false;
        }
        if (!good) {
            Script.wrong("run of seed " + seed + ": .. " + told.subList(Math.max(0, told.size() - 40), told.size()));
        }
    }

    private void one() {
        String name = NAMES[random.nextInt(NAMES.length)];
        int n = random.nextInt(200);
        if (random.nextInt(tame) == 0) {
            wild();
            return;
        }
        switch (name) {
            case "set" -> both(name, random.nextInt(reach), random.nextInt(9) - 4);
            case "ask", "fresh" -> both(name, random.nextInt(reach), argument());
            case "bound" -> both(name, n % 4 > 0 ? 60 + random.nextInt(241) : 1 + random.nextInt(60));
            case "policy" -> both(name, random.nextInt(4));
            case "start" -> both(name, random.nextInt(4), random.nextInt(reach), argument());
            case "step" -> both(name, random.nextInt(4), n % 3 > 0 ? 1 + random.nextInt(9) : 1 + random.nextInt(100));
            case "stop" -> {
                if (n % 4 == 0) {
                    both(name, random.nextInt(4));
                }
            }
            case "drop" -> {
                if (n % 20 == 0) {
                    both(name, random.nextInt(reach));
                }
            }
            case "clear" -> {
                if (n % 5 == 0) {
                    both(name);
                }
            }
            default -> {
                if (n % 2 == 0) {
                    text(random.nextInt(reach));
                }
            }
        }
    }

    private int argument() {
        return random.nextInt(4) > 0 ? random.nextInt(6) : random.nextInt(101) - 50;
    }

    private void wild() {
        String[] names = {"feed", "rule", "drop", "set", "cell", "ask", "fresh", "bound", "policy", "kept", "asked", "key",
            "wave", "would", "heirs", "chain", "start", "step", "stop", "task", "frame", "led", "count"};
        both(names[random.nextInt(names.length)], wildNumber(), wildNumber(), wildNumber());
    }

    private int wildNumber() {
        return WILD[random.nextInt(WILD.length)];
    }

    private void text(int rule) {
        StringBuilder s = new StringBuilder();
        char before = 0;
        String[] from = layered && rule == 0 ? LEAVES : TEXTS;
        for (char c : from[random.nextInt(from.length)].toCharArray()) {
            if (c == '%') {
                s.append(before == 'f' && layered ? random.nextInt(Math.max(1, rule)) : random.nextInt(reach));
            } else {
                s.append(c);
            }
            before = c;
        }
        if (random.nextInt(16) == 0) {
            s.setCharAt(random.nextInt(s.length()), "x1c(-)?:+".charAt(random.nextInt(9)));
        }
        for (int i = 0; i < s.length() && good; i++) {
            both("feed", s.charAt(i));
        }
        both("rule", rule);
    }

    private void both(String name, int... n) {
        int got = Script.call(x, name, n);
        int due = model.call(name, n);
        if (!looking) {
            told.add(name + Arrays.toString(n) + " " + got);
        }
        if (got != due && good) {
            told.add("WRONG: " + name + Arrays.toString(n) + " " + got + ", due is " + due);
            good = false;
        }
    }

    /** All that the object tells of itself. */
    private void look() {
        both("steps");
        both("next");
        for (int i = 0; i < 8; i++) {
            both("led", i);
            both("count", i);
        }
        for (int t = 0; t < 4; t++) {
            for (int what = 0; what < 6; what++) {
                both("task", t, what);
            }
            for (int i = 0; i <= Math.max(0, model.task(t, 2)); i++) {
                both("frame", t, i);
            }
        }
        for (int what = 0; what < 24; what++) {
            both("would", what);
        }
        for (int i = 0; i <= model.wave.size(); i++) {
            both("wave", i);
        }
        for (int i = 0; i <= model.kept.size(); i++) {
            both("key", 0, i);
            both("key", 1, i);
        }
        lookAtKept();
    }

    private void lookAtKept() {
        List<Integer> keys = new ArrayList<>(model.kept.keySet());
        for (int key : keys) {
            for (int what = 0; what < 7; what++) {
                both("kept", key, what);
            }
            for (int i = 0; i <= model.kept(key, 5); i++) {
                both("asked", key, i);
            }
        }
        for (int i = 0; i < 3 && !keys.isEmpty(); i++) {
            int key = keys.get(random.nextInt(keys.size()));
            both("heirs", key);
            both("chain", key);
        }
        int any = random.nextInt(1212);
        both("kept", any, random.nextInt(7));
        both("heirs", any);
        both("chain", any);
    }

    // ---- texts

    private static void texts() {
        Random random = new Random(7);
        MemoByWeight x = new MemoByWeight();
        Model model = new Model();
        for (int i = 0; i < 60000; i++) {
            StringBuilder s = new StringBuilder(some(random, random.nextInt(6)));
            int spoiled = random.nextInt(3);
            for (int k = 0; k < spoiled; k++) {
                int at = random.nextInt(s.length() + 1);
                s.insert(at, "x01129cf+-*/<=?:()a".charAt(random.nextInt(19)));
            }
            if (random.nextInt(4) == 0) {
                s.setLength(random.nextInt(s.length() + 1));
            }
            s.setLength(Math.min(s.length(), 100));
            for (char c : s.toString().toCharArray()) {
                x.feed(c);
                model.feed(c);
            }
            int got = x.rule(i % 12);
            int due = model.rule(i % 12);
            if (got != due) {
                Script.wrong("text " + s + " answered " + got + ", due is " + due);
            }
            int argument = random.nextInt(9) - 4;
            got = x.fresh(i % 12, argument);
            due = model.fresh(i % 12, argument);
            if (got != due) {
                Script.wrong("fresh " + s + " of " + argument + " answered " + got + ", due is " + due);
            }
        }
    }

    /** A made-up E, a deep one for a great depth. */
    private static String some(Random random, int depth) {
        if (depth <= 0) {
            return switch (random.nextInt(4)) {
                case 0 -> "x";
                case 1 -> "c" + random.nextInt(12);
                default -> "" + random.nextInt(100);
            };
        }
        String a = some(random, depth - 1);
        String b = some(random, random.nextInt(depth));
        return switch (random.nextInt(9)) {
            case 0 -> a + "?" + b + ":" + some(random, random.nextInt(depth));
            case 1 -> "(" + a + ")";
            case 2 -> "-" + a;
            case 3 -> "f" + random.nextInt(12) + "(" + a + ")";
            default -> a + "+-*/<=".charAt(random.nextInt(6)) + b;
        };
    }
}
