import java.util.Arrays;

/**
 * Calls on one object, written as lines "call numbers = answer due".
 * "text R TEXT = answer" feeds the TEXT's bytes and then calls rule(R); "tape TEXT" only feeds them.
 * What stands behind # is passed over.
 */
final class Script {
    private static int wrong = 0;
    private final String name;
    private final MemoByWeight x = new MemoByWeight();

    Script(String name) {
        this.name = name;
    }

    /** A whole script on a new object. */
    static Script run(String name, String lines) {
        Script script = new Script(name);
        script.say(lines);
        return script;
    }

    static void end() {
        System.out.println(wrong == 0 ? "all answers are as due" : wrong + " answers are not as due");
        if (wrong != 0) {
            System.exit(1);
        }
    }

    static void wrong(String what) {
        wrong++;
        System.out.println(what);
    }

    void say(String lines) {
        for (String line : lines.split("\n")) {
            String told = line.contains("#") ? line.substring(0, line.indexOf('#')) : line;
            if (!told.isBlank()) {
                line(told.strip());
            }
        }
    }

    private void line(String line) {
        String[] words = line.split(" +");
        if (words[0].equals("tape")) {
            feedAll(words.length > 1 ? words[1] : "");
            return;
        }
        int is = line.lastIndexOf('=');
        if (words[0].equals("text")) {
            String[] parts = line.substring(0, is).strip().split(" +");
            feedAll(parts.length > 2 ? parts[2] : "");
            due(line, x.rule(Integer.parseInt(parts[1])), line.substring(is + 1).strip());
            return;
        }
        String[] parts = line.substring(0, is).strip().split(" +");
        int[] n = Arrays.stream(parts).skip(1).mapToInt(Integer::parseInt).toArray();
        due(line, call(x, parts[0], n), line.substring(is + 1).strip());
    }

    private void feedAll(String text) {
        for (int i = 0; i < text.length(); i++) {
            int had = x.count(3);
            due("feed " + text.charAt(i) + " of " + text, x.feed(text.charAt(i)), "" + (had + 1));
        }
    }

    private void due(String line, int got, String want) {
        int due = switch (want) {
            case "BAD" -> MemoByWeight.BAD;
            case "NOT" -> MemoByWeight.NOT;
            case "STATE" -> MemoByWeight.STATE;
            case "FULL" -> MemoByWeight.FULL;
            default -> Integer.parseInt(want);
        };
        if (got != due) {
            wrong(name + ": " + line + ": answered " + got);
        }
    }

    static int call(MemoByWeight x, String name, int... n) {
        return switch (name) {
            case "feed" -> x.feed(n[0]);
            case "rule" -> x.rule(n[0]);
            case "drop" -> x.drop(n[0]);
            case "set" -> x.set(n[0], n[1]);
            case "cell" -> x.cell(n[0]);
            case "ask" -> x.ask(n[0], n[1]);
            case "fresh" -> x.fresh(n[0], n[1]);
            case "steps" -> x.steps();
            case "bound" -> x.bound(n[0]);
            case "policy" -> x.policy(n[0]);
            case "kept" -> x.kept(n[0], n[1]);
            case "asked" -> x.asked(n[0], n[1]);
            case "key" -> x.key(n[0], n[1]);
            case "wave" -> x.wave(n[0]);
            case "would" -> x.would(n[0]);
            case "heirs" -> x.heirs(n[0]);
            case "chain" -> x.chain(n[0]);
            case "next" -> x.next();
            case "clear" -> x.clear();
            case "start" -> x.start(n[0], n[1], n[2]);
            case "step" -> x.step(n[0], n[1]);
            case "stop" -> x.stop(n[0]);
            case "task" -> x.task(n[0], n[1]);
            case "frame" -> x.frame(n[0], n[1]);
            case "led" -> x.led(n[0]);
            case "count" -> x.count(n[0]);
            default -> throw new IllegalArgumentException(name);
        };
    }
}
