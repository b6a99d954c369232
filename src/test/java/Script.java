import java.util.ArrayList;
import java.util.Arrays;
import java.util.List;
import java.util.Set;
import java.util.TreeSet;

/**
 * Calls on one object, written as lines "call numbers = answer due"; MIN and MAX are int's own least and most.
 * "text R TEXT = answer" feeds the TEXT's bytes and then calls rule(R); "tape TEXT" only feeds them.
 * What stands behind # is passed over.
 * A call that is refused (BAD, NOT, STATE, FULL is due) must change nothing: that is looked at, too.
 */
final class Script {
    /** What later calls answer is free. */
    static final int CALLS_MOST = 512;
    // The looks behind a refusal are calls, too.
    private static final int CALLS_AHEAD_OF_LOOKS = 480;

    record Call(String name, int... n) {
        int on(MemoByWeight x) {
            return call(x, name, n);
        }

        @Override
        public String toString() {
            return name + Arrays.toString(n);
        }
    }

    /** Names of scripts, and "call refusal" for each refusal that was due and came. */
    static final List<String> NAMES = new ArrayList<>();
    static final Set<String> REFUSED = new TreeSet<>();

    private static int wrong = 0;
    private final String name;
    private final MemoByWeight x = new MemoByWeight();
    private final List<Call> calls = new ArrayList<>();
    private List<String> looksBefore;

    Script(String name) {
        this.name = name;
        NAMES.add(name);
    }

    /** A whole script on a new object. */
    static Script run(String name, String lines) {
        Script script = new Script(name);
        script.say(lines);
        return script;
    }

    static void end() {
        String all = NAMES.isEmpty() ? "" : NAMES.size() + " scripts: ";
        System.out.println(all + (wrong == 0 ? "all answers are as due" : wrong + " answers are not as due"));
        if (wrong != 0) {
            System.exit(1);
        }
    }

    static void wrong(String what) {
        wrong++;
        System.out.println(what);
    }

    void say(String lines) {
        for (String line : lines.split("\n")) {
            String told = line.contains("#") ? line.substring(0, line.indexOf('#')) : line;
            if (!told.isBlank()) {
                line(told.strip());
            }
        }
    }

    private void line(String line) {
        String[] words = line.split(" +");
        if (words[0].equals("tape")) {
            feedAll(words.length > 1 ? words[1] : "");
            return;
        }
        int is = line.lastIndexOf(" = ");
        String[] parts = line.substring(0, is).strip().split(" +");
        String want = line.substring(is + 3).strip();
        if (words[0].equals("text")) {
            feedAll(parts.length > 2 ? parts[2] : "");
            due(line, new Call("rule", number(parts[1])), want);
            return;
        }
        due(line, new Call(parts[0], Arrays.stream(parts).skip(1).mapToInt(Script::number).toArray()), want);
    }

    private static int number(String told) {
        return switch (told) {
            case "MIN" -> Integer.MIN_VALUE;
            case "MAX" -> Integer.MAX_VALUE;
            default -> Integer.parseInt(told);
        };
    }

    private void feedAll(String text) {
        int had = text.isEmpty() ? 0 : x.count(3);
        for (int i = 0; i < text.length(); i++) {
            due("feed " + text.charAt(i) + " of " + text, new Call("feed", text.charAt(i)), "" + (had + i + 1));
        }
    }

    private void due(String line, Call call, String want) {
        int due = switch (want) {
            case "BAD" -> MemoByWeight.BAD;
            case "NOT" -> MemoByWeight.NOT;
            case "STATE" -> MemoByWeight.STATE;
            case "FULL" -> MemoByWeight.FULL;
            default -> number(want);
        };
        boolean refused = due >= MemoByWeight.FULL && due <= MemoByWeight.BAD;
        if (refused && calls.size() >= CALLS_AHEAD_OF_LOOKS) {
            wrong(name + ": " + line + ": no calls are left to look at what a refusal changed");
        }
        if (refused && looksBefore == null) {
            looksBefore = Looks.after(calls);
        }
        int got = call.on(x);
        if (got != due) {
            wrong(name + ": " + line + ": answered " + got);
        }
        calls.add(call);
        if (calls.size() == CALLS_MOST + 1) {
            wrong(name + ": more calls on one object than are promised");
        }
        if (refused) {
            REFUSED.add(call.name + " " + want);
            changedNothing(line);
        } else {
            looksBefore = null;
        }
    }

    private void changedNothing(String line) {
        List<String> looks = Looks.after(calls);
        for (int i = 0; i < Math.min(looks.size(), looksBefore.size()); i++) {
            if (!looks.get(i).equals(looksBefore.get(i))) {
                wrong(name + ": " + line + ": is refused, but changed " + looksBefore.get(i) + " to " + looks.get(i));
                looksBefore = looks;
                return;
            }
        }
    }

    static int call(MemoByWeight x, String name, int... n) {
        return switch (name) {
            case "feed" -> x.feed(n[0]);
            case "rule" -> x.rule(n[0]);
            case "drop" -> x.drop(n[0]);
            case "set" -> x.set(n[0], n[1]);
            case "cell" -> x.cell(n[0]);
            case "ask" -> x.ask(n[0], n[1]);
            case "fresh" -> x.fresh(n[0], n[1]);
            case "steps" -> x.steps();
            case "bound" -> x.bound(n[0]);
            case "policy" -> x.policy(n[0]);
            case "kept" -> x.kept(n[0], n[1]);
            case "asked" -> x.asked(n[0], n[1]);
            case "key" -> x.key(n[0], n[1]);
            case "wave" -> x.wave(n[0]);
            case "would" -> x.would(n[0]);
            case "heirs" -> x.heirs(n[0]);
            case "chain" -> x.chain(n[0]);
            case "next" -> x.next();
            case "clear" -> x.clear();
            case "start" -> x.start(n[0], n[1], n[2]);
            case "step" -> x.step(n[0], n[1]);
            case "stop" -> x.stop(n[0]);
            case "task" -> x.task(n[0], n[1]);
            case "frame" -> x.frame(n[0], n[1]);
            case "led" -> x.led(n[0]);
            case "count" -> x.count(n[0]);
            default -> throw new IllegalArgumentException(name);
        };
    }
}
