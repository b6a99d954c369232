import java.util.ArrayList;
import java.util.List;

/**
 * All that can be found out about an object after some calls, so that two states can be compared: also what
 * only shows later on (the tape, the texts, what tasks will do, what will go by the bound). The calls are made
 * again on new objects for that, as many as it takes: a look may change its object, and calls are counted.
 */
final class Looks {
    private final List<Script.Call> calls;
    private final List<String> seen = new ArrayList<>();
    private MemoByWeight x;
    private int made;

    private Looks(List<Script.Call> calls) {
        this.calls = calls;
    }

    static List<String> after(List<Script.Call> calls) {
        Looks looks = new Looks(calls);
        looks.numbers();
        looks.keptOnes();
        looks.tasks();
        looks.whatShowsLater();
        return looks.seen;
    }

    private void anew() {
        x = new MemoByWeight();
        for (Script.Call call : calls) {
            call.on(x);
        }
        made = calls.size();
    }

    /** A look that changes nothing: at the object of the look ahead, while calls are left to it. */
    private int look(String name, int... n) {
        if (x == null || made >= Script.CALLS_MOST) {
            anew();
        }
        return lookOn(name, n);
    }

    /** A look at the very object of the look ahead. */
    private int lookOn(String name, int... n) {
        int got = Script.call(x, name, n);
        seen.add(new Script.Call(name, n) + " = " + got);
        made++;
        return got;
    }

    private void numbers() {
        look("steps");
        look("next");
        for (int i = 0; i < 7; i++) {
            look("led", i);
        }
        for (int i = 0; i < 6; i++) {
            look("count", i);
        }
        for (int i = 0; i < 12; i++) {
            look("cell", i);
        }
        for (int i = 0; i < 24; i++) {
            look("would", i);
        }
        for (int i = 0; look("wave", i) >= 0; i++) {
        }
    }

    private void keptOnes() {
        List<Integer> keys = new ArrayList<>();
        for (int key = look("key", 0, 0); key >= 0; key = look("key", 0, keys.size())) {
            keys.add(key);
        }
        for (int i = 0; look("key", 1, i) >= 0; i++) {
        }
        for (int key : keys) {
            for (int what = 0; what < 7; what++) {
                look("kept", key, what);
            }
            for (int i = 0; look("asked", key, i) >= 0; i++) {
            }
            look("heirs", key);
            look("chain", key);
        }
    }

    private void tasks() {
        for (int task = 0; task < 4; task++) {
            for (int what = 0; what < 6; what++) {
                look("task", task, what);
            }
            for (int i = 0; look("frame", task, i) >= 0; i++) {
            }
        }
    }

    private void whatShowsLater() {
        for (int rule = 0; rule < 12; rule++) {
            for (int argument = -3; argument < 4; argument += 2) {
                look("fresh", rule, argument);
            }
        }
        anew();
        for (int i = 0; i < 2; i++) {
            lookOn("rule", 11);
            lookOn("fresh", 11, 3);
        }
        anew();
        lookOn("bound", 300);
        lookOn("policy", 2);
        for (int task = 0; task < 4; task++) {
            anew();
            for (int i = 0; i < 6; i++) {
                lookOn("step", task, 100 - i);
            }
            lookOn("task", task, 1);
            lookOn("count", 4);
            lookOn("led", 1);
        }
        anew();
        for (int i = 1; i < 12; i++) {
            lookOn("next");
            lookOn("bound", Math.max(1, 60 - 6 * i));
        }
    }
}
