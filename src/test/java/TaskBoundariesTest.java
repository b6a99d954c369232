/** Each sentence of section 3, and of promises 21 to 27, that names a boundary case. */
public final class TaskBoundariesTest {
    public static void main(String[] args) {
        start();
        startsAtOnce();
        startAgain();
        step();
        stop();
        task();
        frame();
        waits();
        waitsOn();
        rings();
        noRings();
        fails();
        longTasks();
        longWaits();
        askAndTasks();
        Script.end();
    }

    private static void start() {
        Script bad = Script.run("promise 21: BAD: TASKS 0 .. 3, RULES, ARGUMENTS", """
            text 0 x = 1
            text 11 x+1 = 3
            start MIN 0 0 = BAD
            start -1 0 0 = BAD
            start 4 0 0 = BAD
            start MAX 0 0 = BAD
            start 0 MIN 0 = BAD
            start 0 -1 0 = BAD
            start 0 12 0 = BAD
            start 0 MAX 0 = BAD
            start 0 0 MIN = BAD
            start 0 0 -51 = BAD
            start 0 0 51 = BAD
            start 0 0 MAX = BAD
            count 4 = 0
            count 5 = 0
            start 0 0 -50 = 1
            start 3 11 50 = 1
            frame 0 0 = 0
            frame 3 0 = 1211
            """);
        bad.say("step 0 1 = 1\nstep 3 9 = 3\ntask 0 1 = -50\ntask 3 1 = 51");
        Script.run("promise 21: STATE: it is running", """
            text 0 x+x = 3
            start 0 0 3 = 1
            start 0 0 3 = STATE
            start 0 0 4 = STATE
            start 0 1 4 = STATE
            step 0 1 = 1
            start 0 0 3 = STATE
            count 4 = 1
            led 1 = 1
            step 0 9 = 2
            task 0 1 = 6
            """);
        Script.run("promise 21: STATE: it is waiting", """
            text 0 x+x = 3
            start 1 0 3 = 1
            start 0 0 3 = 2
            start 0 0 3 = STATE
            start 0 0 4 = STATE
            count 4 = 2
            led 6 = 1
            task 0 4 = 1
            task 0 5 = 53
            """);
        Script.run("promise 21: BAD leaves a TASK that ended, failed or is idle as it is", """
            text 0 x+x = 3
            text 1 1/0 = 3
            start 0 0 3 = 1
            step 0 9 = 3
            start 0 12 3 = BAD
            start 0 0 51 = BAD
            task 0 0 = 3
            task 0 1 = 6
            task 0 3 = 3
            start 1 1 3 = 1
            step 1 9 = 3
            start 1 -1 3 = BAD
            start 1 0 -51 = BAD
            task 1 1 = -10002
            start 2 12 3 = BAD
            task 2 0 = 0
            """);
        Script.run("promise 21: BAD is ahead of STATE", """
            text 0 x+x = 3
            start 1 0 3 = 1
            start 0 0 3 = 2
            start 1 12 3 = BAD
            start 1 -1 3 = BAD
            start 1 0 51 = BAD
            start 0 0 -51 = BAD
            start 4 0 3 = BAD
            start 1 0 3 = STATE
            """);
    }

    private static void startsAtOnce() {
        Script.run("section 3: started with a KEY it asks it at once, without a STEP: running", """
            text 0 x+x = 3
            start 0 0 3 = 1
            count 4 = 1
            task 0 0 = 1
            task 0 1 = NOT
            task 0 2 = 1
            task 0 3 = 0
            frame 0 0 = 53
            led 1 = 1
            led 6 = 0
            """);
        Script.run("section 3: a HIT ends it", """
            text 0 x+x = 3
            ask 0 3 = 6
            start 0 0 3 = 3
            task 0 1 = 6
            task 0 2 = 0
            task 0 3 = 0
            frame 0 0 = NOT
            led 0 = 1
            led 1 = 1
            led 2 = 0
            count 4 = 2
            count 5 = 0
            step 0 1 = STATE
            stop 0 = STATE
            """);
        Script.run("section 3: a RULE without a TEXT fails it", """
            start 0 0 3 = 4
            task 0 1 = -10005
            task 0 2 = 0
            task 0 3 = 0
            led 2 = 1
            led 1 = 0
            count 4 = 1
            count 5 = 0
            step 0 1 = STATE
            stop 0 = STATE
            """);
        Script.run("section 3: (and a wait, as below)", """
            text 0 x+x = 3
            start 3 0 3 = 1
            start 0 0 3 = 2
            task 0 1 = NOT
            task 0 2 = 0
            task 0 3 = 0
            task 0 4 = 3
            task 0 5 = 53
            led 6 = 1
            led 1 = 1
            count 4 = 2
            count 5 = 2
            """);
        Script.run("section 3: (and a ring, as below)", """
            text 0 f1(x) = 2
            text 1 x+x = 3
            start 1 1 3 = 1
            start 0 0 3 = 1
            step 0 9 = 2
            task 0 4 = 1
            stop 1 = 1
            task 0 0 = 2
            task 0 4 = 1
            start 1 0 3 = 4           # 0 still waits for TASK 1
            task 1 1 = -10001
            led 2 = 1
            led 6 = 1
            step 0 1 = 1
            """);
    }

    private static void startAgain() {
        Script.run("section 3: a TASK that isn't running or waiting is started: ended, failed, idle again", """
            text 0 x+x = 3
            start 0 0 3 = 1
            step 0 9 = 3
            task 0 0 = 3
            start 0 0 4 = 1
            task 0 1 = NOT
            task 0 3 = 0
            step 0 2 = 2
            stop 0 = 1
            task 0 0 = 0
            start 0 1 4 = 4
            task 0 1 = -10005
            start 0 0 3 = 3
            task 0 1 = 6
            start 0 1 4 = 4
            start 0 0 4 = 1
            task 0 1 = NOT
            led 2 = 2
            """);
    }

    private static void step() {
        Script.run("promise 22: n (1 .. 100); BAD", """
            text 0 0+1+2+3+4+5+6+7+8+9+0+1+2+3+4+5+6+7+8+9+0+1+2+3+4+5+6+7+8+9+0+1+2+3+4+5+6+7+8+9 = 79
            text 1 f0(x)+f0(1) = 5
            start 0 1 0 = 1
            step 0 MIN = BAD
            step 0 -1 = BAD
            step 0 0 = BAD
            step 0 101 = BAD
            step 0 MAX = BAD
            step MIN 1 = BAD
            step -1 1 = BAD
            step 4 1 = BAD
            step MAX 1 = BAD
            task 0 3 = 0
            step 0 1 = 1
            task 0 3 = 1
            step 0 100 = 100
            task 0 3 = 101
            step 0 100 = 62
            task 0 0 = 3
            task 0 1 = 360
            """);
        Script.run("promise 22: STATE: it is neither running nor waiting", """
            text 0 x+x = 3
            step 0 1 = STATE
            start 0 0 3 = 1
            step 0 3 = 3
            step 0 1 = STATE
            start 0 1 3 = 4
            step 0 1 = STATE
            start 0 0 4 = 1
            stop 0 = 1
            step 0 100 = STATE
            step 3 1 = STATE
            """);
        Script.run("promise 22: BAD is ahead of STATE", """
            step 0 0 = BAD
            step 0 101 = BAD
            step 4 1 = BAD
            step -1 1 = BAD
            step 0 1 = STATE
            """);
        Script.run("section 3: it does STEPS till it has done n: the one that ends it is the last", """
            text 0 x+x = 3
            start 0 0 3 = 1
            step 0 2 = 2
            task 0 0 = 1
            step 0 1 = 1
            task 0 0 = 3
            start 1 0 4 = 1
            step 1 3 = 3
            task 1 0 = 3
            start 2 0 5 = 1
            step 2 4 = 3
            task 2 0 = 3
            """);
        Script.run("section 3: or fails: the STEP by which it does is done", """
            text 0 x/0+1 = 5
            start 0 0 3 = 1
            step 0 2 = 2
            task 0 0 = 1
            step 0 9 = 1
            task 0 0 = 4
            task 0 1 = -10002
            task 0 3 = 3
            task 0 2 = 0
            led 2 = 1
            """);
        Script.run("section 3: or waits: the call's STEP is done", """
            text 0 f1(x)+1 = 4
            text 1 x+x = 3
            start 1 1 3 = 1
            start 0 0 3 = 1
            step 0 1 = 1
            task 0 0 = 1
            step 0 9 = 1
            task 0 0 = 2
            task 0 3 = 2
            task 0 2 = 1
            """);
    }

    private static void stop() {
        Script.run("promise 23: BAD; STATE", """
            stop MIN = BAD
            stop -1 = BAD
            stop 4 = BAD
            stop MAX = BAD
            stop 0 = STATE
            stop 3 = STATE
            text 0 x = 1
            start 0 0 3 = 1
            step 0 1 = 1
            stop 0 = STATE
            task 0 1 = 3
            start 0 1 3 = 4
            stop 0 = STATE
            task 0 1 = -10005
            start 0 0 4 = 1
            stop 0 = 1
            stop 0 = STATE
            """);
        Script.run("promise 23: a TASK that runs or waits: how many FRAMES it had, none and 30", """
            text 0 x?f0(x-1):c0+c0 = 9
            start 0 0 29 = 1
            start 1 0 29 = 2
            stop 1 = 0
            task 1 0 = 0
            step 0 100 = 100
            step 0 74 = 74
            task 0 2 = 30
            stop 0 = 30
            task 0 0 = 0
            task 0 1 = NOT
            task 0 2 = 0
            task 0 3 = 0
            frame 0 0 = NOT
            led 2 = 0
            count 0 = 0
            """);
        Script.run("promise 23: a TASK that waits with FRAMES", """
            text 0 f1(x) = 2
            text 1 f2(x) = 2
            text 2 x+x = 3
            start 1 2 3 = 1
            start 0 0 3 = 1
            step 0 9 = 4
            task 0 0 = 2
            stop 0 = 2
            task 0 4 = NOT
            task 0 5 = NOT
            count 5 = 1
            start 2 1 3 = 1           # nobody runs it now
            """);
    }

    private static void task() {
        Script.run("promise 24: BAD", """
            task MIN 0 = BAD
            task -1 0 = BAD
            task 4 0 = BAD
            task MAX 0 = BAD
            task 0 MIN = BAD
            task 0 -1 = BAD
            task 0 6 = BAD
            task 0 MAX = BAD
            task 4 1 = BAD
            task 0 0 = 0
            task 3 5 = NOT
            """);
        String none = "task 0 1 = NOT\ntask 0 4 = NOT\ntask 0 5 = NOT\n";
        Script.run("promise 24: of an idle one", none + "task 0 0 = 0\ntask 0 2 = 0\ntask 0 3 = 0");
        Script.run("promise 24: of a running one",
            "text 0 x+x = 3\nstart 0 0 3 = 1\nstep 0 2 = 2\n" + none + "task 0 0 = 1\ntask 0 2 = 1\ntask 0 3 = 2");
        Script.run("promise 24: of a waiting one", """
            text 0 f1(x) = 2
            text 1 x+x = 3
            start 2 1 3 = 1
            start 0 0 3 = 1
            step 0 9 = 2
            task 0 0 = 2
            task 0 1 = NOT
            task 0 2 = 1
            task 0 3 = 2
            task 0 4 = 2
            task 0 5 = 154
            """);
        Script.run("promise 24: of an ended one", """
            text 0 x+x = 3
            start 0 0 3 = 1
            step 0 9 = 3
            task 0 0 = 3
            task 0 1 = 6
            task 0 2 = 0
            task 0 3 = 3
            task 0 4 = NOT
            task 0 5 = NOT
            """);
        Script.run("promise 24: of a failed one", """
            text 0 x+x/0 = 5
            start 0 0 3 = 1
            step 0 9 = 4
            task 0 0 = 4
            task 0 1 = -10002
            task 0 2 = 0
            task 0 3 = 4
            task 0 4 = NOT
            task 0 5 = NOT
            """);
    }

    private static void frame() {
        Script.run("promise 25: BAD: no such TASK, i below 0; NOT: there are not as many", """
            frame MIN 0 = BAD
            frame -1 0 = BAD
            frame 4 0 = BAD
            frame MAX 0 = BAD
            frame 0 MIN = BAD
            frame 0 -1 = BAD
            frame 3 -1 = BAD
            frame 0 0 = NOT
            frame 0 MAX = NOT
            text 0 x?f0(x-1):c0 = 7
            start 3 0 29 = 1
            frame 3 0 = 79
            frame 3 1 = NOT
            step 3 100 = 100
            step 3 74 = 74
            frame 3 0 = 79
            frame 3 1 = 78
            frame 3 29 = 50
            frame 3 30 = NOT
            frame 3 MAX = NOT
            frame 3 -1 = BAD
            frame 0 0 = NOT
            step 3 100 = 3
            frame 3 0 = NOT
            """);
    }

    private static void waits() {
        Script.run("section 3: it waits: for a FRAME of another TASK that runs, undermost or above", """
            text 0 f1(x) = 2
            text 1 f2(x) = 2
            text 2 x+x = 3
            start 3 0 5 = 1
            step 3 5 = 5
            start 0 0 5 = 2
            start 1 1 5 = 2
            start 2 2 5 = 2
            task 0 4 = 3
            task 1 4 = 3
            task 2 4 = 3
            task 0 5 = 55
            task 1 5 = 156
            task 2 5 = 257
            led 6 = 3
            """);
        Script.run("section 3: it waits: for a FRAME of another TASK that waits", """
            text 0 f1(x) = 2
            text 1 x+x = 3
            start 1 1 5 = 1
            start 0 0 5 = 1
            step 0 9 = 2
            task 0 0 = 2
            start 2 0 5 = 2
            task 2 4 = 0
            task 2 5 = 55
            """);
        Script.run("section 3: a KEY that isn't KEPT: one that is needs no wait", """
            text 0 x+x = 3
            start 1 0 5 = 1
            ask 0 5 = 10
            start 0 0 5 = 3
            led 6 = 0
            task 1 0 = 1
            """);
        Script.run("section 3: no wait for a TASK that ended, failed, or is idle, or for another ARGUMENT", """
            text 0 x/c0 = 3
            start 1 0 5 = 1
            step 1 9 = 3
            task 1 1 = -10002
            start 0 0 5 = 1
            start 2 0 6 = 1
            stop 0 = 1
            start 3 0 5 = 1
            led 6 = 0
            """);
        Script.run("section 3: a wait ends no FRAMES: one that waits ends with the HIT", """
            text 0 f1(x)+f1(x) = 5
            text 1 x+x = 3
            start 1 1 5 = 1
            start 0 0 5 = 1
            step 0 9 = 2
            step 1 9 = 3
            task 0 0 = 2
            task 0 3 = 2
            step 0 1 = 1              # the HIT of the wait is no STEP
            task 0 0 = 1
            step 0 9 = 2
            task 0 1 = 20
            kept 55 1 = 5
            kept 156 4 = 3
            led 0 = 2
            """);
    }

    private static void waitsOn() {
        Script.run("section 3: a waiting TASK that is STEPPED first asks its KEY again, no STEP; TIME goes on; it may wait on", """
            text 0 x+x = 3
            start 1 0 5 = 1
            start 0 0 5 = 2
            count 4 = 2
            step 0 1 = 0
            count 4 = 3
            task 0 0 = 2
            task 0 3 = 0
            step 0 100 = 0
            count 4 = 4
            led 6 = 1
            """);
        Script.run("section 3: asked again: a HIT, and STEPS go on", """
            text 0 f1(x)+7 = 4
            text 1 x+x = 3
            start 1 1 5 = 1
            start 0 0 5 = 1
            step 0 9 = 2
            step 1 9 = 3
            step 0 1 = 1
            task 0 0 = 1
            step 0 1 = 1
            task 0 1 = 17
            task 0 3 = 4
            kept 156 3 = 4
            kept 156 4 = 2
            kept 55 1 = 4
            """);
        Script.run("section 3: asked again: a FRAME more, with the TIME of that asking", """
            text 0 f1(x)+7 = 4
            text 1 x+x = 3
            start 1 1 5 = 1
            start 0 0 5 = 1
            step 0 9 = 2
            stop 1 = 1
            step 0 1 = 1
            task 0 2 = 2
            led 1 = 3
            step 0 2 = 2
            kept 156 3 = 4
            kept 156 4 = 1
            kept 156 1 = 3
            step 0 9 = 2
            task 0 1 = 17
            task 0 3 = 7
            """);
        Script.run("section 3: asked again: by 5, when its RULE has no TEXT any more and nobody runs it", """
            text 0 f1(x)+7 = 4
            text 1 x+x = 3
            start 1 1 5 = 1
            start 0 0 5 = 1
            step 0 9 = 2
            stop 1 = 1
            drop 1 = 0
            task 0 0 = 2
            step 0 9 = 0
            task 0 0 = 4
            task 0 1 = -10005
            task 0 3 = 2
            """);
        Script.run("promise 26: waits begun (not those that go on)", """
            text 0 x+x = 3
            start 1 0 5 = 1
            start 0 0 5 = 2
            led 6 = 1
            step 0 1 = 0
            led 6 = 1
            start 2 0 5 = 2
            led 6 = 2
            stop 0 = 0
            start 0 0 5 = 2
            led 6 = 3
            """);
    }

    private static void rings() {
        Script.run("section 3: that one waits for it: it FAILS by RING", """
            text 0 f1(x) = 2
            text 1 f0(x) = 2
            start 0 0 5 = 1
            start 1 1 5 = 1
            step 0 2 = 2
            task 0 0 = 2
            step 1 2 = 2
            task 1 0 = 4
            task 1 1 = -10001
            task 1 2 = 0
            task 0 0 = 2
            led 6 = 1
            led 2 = 1
            count 4 = 4
            """);
        Script.run("section 3: .. or for one that waits for it, ..: of four TASKS", """
            text 0 f1(x) = 2
            text 1 f2(x) = 2
            text 2 f3(x) = 2
            text 3 f0(x) = 2
            start 0 0 5 = 1
            start 1 1 5 = 1
            start 2 2 5 = 1
            start 3 3 5 = 1
            step 0 2 = 2
            step 1 2 = 2
            step 2 2 = 2
            led 6 = 3
            step 3 2 = 2
            task 3 1 = -10001
            led 6 = 3
            led 2 = 1
            task 0 0 = 2
            task 1 0 = 2
            task 2 0 = 2
            """);
        Script.run("section 3: a ring of a KEY that is above in the other TASK", """
            text 0 f1(x) = 2
            text 1 f2(x) = 2
            text 2 f3(x) = 2
            text 3 f1(x) = 2
            start 0 0 5 = 1
            start 1 3 5 = 1
            start 2 2 5 = 1
            step 0 4 = 4              # 0 runs 0, 1 and waits for 2
            task 0 4 = 2
            step 1 2 = 2              # 3 waits for 1
            task 1 4 = 0
            step 2 2 = 2              # 2 asks 3
            task 2 1 = -10001
            """);
        Script.run("section 3: a waiting TASK that asks again may FAIL by RING", """
            text 0 f2(x) = 2
            text 2 f0(x) = 2
            start 2 2 5 = 1
            start 0 0 5 = 1
            step 0 2 = 2
            task 0 4 = 2
            stop 2 = 1
            start 1 2 5 = 1
            step 1 2 = 2              # TASK 0 waits for TASK 2, which is idle: no ring yet
            task 1 4 = 0
            led 6 = 2
            step 0 1 = 0
            task 0 1 = -10001
            task 0 2 = 0
            led 6 = 2
            led 2 = 1
            """);
        Script.run("section 3: of its own FRAMES: by RING, as in 2", """
            text 0 f0(x) = 2
            start 0 0 5 = 1
            step 0 9 = 2
            task 0 1 = -10001
            led 6 = 0
            """);
    }

    private static void noRings() {
        Script.run("section 3: waits in a row are no ring", """
            text 0 f1(x) = 2
            text 1 f2(x) = 2
            text 2 f3(x) = 2
            text 3 x+x = 3
            start 3 3 5 = 1
            start 2 2 5 = 1
            start 1 1 5 = 1
            start 0 0 5 = 1
            step 2 9 = 2
            step 1 9 = 2
            step 0 9 = 2
            led 6 = 3
            led 2 = 0
            step 3 9 = 3
            step 2 1 = 0
            step 1 1 = 0
            step 0 1 = 0
            task 0 1 = 10
            led 0 = 3
            """);
        Script.run("section 3: two that wait for one are no ring", """
            text 0 x+x = 3
            start 3 0 5 = 1
            start 2 0 5 = 2
            start 0 0 5 = 2
            start 1 0 5 = 2
            led 6 = 3
            led 2 = 0
            step 3 9 = 3
            step 0 1 = 0
            step 1 1 = 0
            step 2 1 = 0
            task 0 0 = 3
            task 1 0 = 3
            task 2 0 = 3
            """);
        Script.run("section 3: waits that end at a TASK that doesn't wait are no ring", """
            text 0 f1(x) = 2
            text 1 f2(x) = 2
            text 2 x+x = 3
            text 3 f0(x) = 2
            start 2 2 5 = 1
            start 1 1 5 = 1
            step 1 9 = 2
            task 1 4 = 2
            step 2 3 = 3
            start 2 1 5 = 4           # 1 waits for TASK 2 till it is STEPPED
            task 2 1 = -10001
            start 3 3 5 = 1
            step 3 4 = 4
            task 3 0 = 2
            task 3 4 = 1
            """);
    }

    private static void fails() {
        Script.run("section 3: 1 to 5 as in 2: 30 FRAMES of its own", """
            text 0 x?f0(x-1):7 = 7
            start 0 0 29 = 1
            step 0 100 = 100
            step 0 100 = 77
            task 0 1 = 7
            clear = 15
            start 0 0 30 = 1
            step 0 100 = 100
            step 0 79 = 79
            task 0 2 = 30
            step 0 1 = 1
            task 0 1 = -10004
            task 0 3 = 180
            """);
        Script.run("section 3: FRAMES of its own: those of others don't count", """
            text 0 x?f0(x-1):7 = 7
            text 1 x?f1(x-1):7 = 7
            start 1 1 29 = 1
            step 1 100 = 100
            step 1 76 = 76
            task 1 2 = 30
            start 0 0 29 = 1
            step 0 100 = 100
            step 0 100 = 77
            task 0 1 = 7
            """);
        Script.run("section 3: a wait is ahead of 4, with 30 FRAMES of its own", """
            text 0 x?f0(x-1):f1(3) = 8
            text 1 x+x = 3
            start 1 1 3 = 1
            start 0 0 29 = 1
            step 0 100 = 100
            step 0 100 = 78
            task 0 0 = 2
            task 0 2 = 30
            stop 1 = 1
            step 0 1 = 0
            task 0 1 = -10004
            """);
        Script.run("section 3: 2, 3 and 5 as in 2", """
            text 0 1/x = 3
            start 0 0 0 = 1
            step 0 9 = 3
            task 0 1 = -10002
            text 0 f1(x+50) = 4
            start 0 0 1 = 1
            step 0 9 = 4
            task 0 1 = -10003
            count 4 = 2
            start 0 0 0 = 1
            step 0 9 = 4
            task 0 1 = -10005
            count 4 = 4
            text 0 99*99+99+99+x = 9
            start 0 0 1 = 1
            step 0 10 = 9
            task 0 1 = -10003
            start 0 0 0 = 1
            step 0 10 = 9
            task 0 1 = 9999
            led 2 = 4
            """);
    }

    private static void longTasks() {
        // 98 of its 99 STEPS are done each time, then the CELL that it read first is CHANGED
        String text = "text 0 c0-" + "x-".repeat(48) + "x = 99\nstart 0 0 0 = 1\n";
        StringBuilder often = new StringBuilder(text);
        for (int i = 1; i <= 20; i++) {
            often.append("step 0 98 = 98\nset 0 ").append(i).append(" = 0\n");
        }
        Script.run("section 3: 6: the STEPS of the whole TASK since it started: the 2000th is done", often + """
            task 0 3 = 1960
            step 0 40 = 40
            task 0 3 = 2000
            task 0 0 = 1
            task 0 2 = 1
            led 2 = 0
            """);
        Script.run("section 3: 6: the STEPS of the whole TASK since it started: the 2001st isn't", often + """
            step 0 41 = 40
            task 0 3 = 2000
            task 0 0 = 4
            task 0 1 = -10006
            task 0 2 = 0
            led 2 = 1
            step 0 1 = STATE
            """);
        Script.run("section 3: 6: started again its STEPS are counted anew", often + """
            step 0 100 = 40
            task 0 1 = -10006
            start 0 0 0 = 1
            task 0 3 = 0
            step 0 100 = 99
            task 0 1 = 20
            task 0 3 = 99
            """);
        StringBuilder less = new StringBuilder(text);
        for (int i = 1; i <= 19; i++) {
            less.append("step 0 98 = 98\nset 0 ").append(i).append(" = 0\n");
        }
        Script.run("section 3: 6: a TASK that ends with its 2000th STEP ends", less + """
            task 0 3 = 1862
            step 0 39 = 39
            set 0 50 = 0
            task 0 3 = 1901
            step 0 100 = 99
            task 0 3 = 2000
            task 0 0 = 3
            task 0 1 = 50
            kept 50 1 = 99
            """);
    }

    /** The call that is the last NODE, and waits, is the 2000th STEP. */
    private static void longWaits() {
        StringBuilder at2000 = new StringBuilder("text 0 c0" + "-x".repeat(44) + "?f1(x):1 = 93\ntext 1 c5+7 = 3\n"
            + "start 1 1 0 = 1\nset 0 99 = 0\nstart 0 0 0 = 1\n");
        for (int i = 1; i <= 20; i++) {
            at2000.append("step 0 91 = 91\nset 0 ").append(i).append(" = 0\n");
        }
        at2000.append("step 0 88 = 88\nset 0 50 = 0\nstep 0 100 = 92\ntask 0 3 = 2000\ntask 0 0 = 2\n");
        Script.run("section 3: 6: a wait of the 2000th STEP that ends by a HIT needs no STEP", at2000 + """
            step 1 9 = 3
            step 0 1 = 0
            task 0 0 = 3
            task 0 1 = 7
            task 0 3 = 2000
            """);
        Script.run("section 3: 6: a wait of the 2000th STEP that ends by a FRAME more: a 2001st STEP would come", at2000 + """
            led 1 = 23
            stop 1 = 1
            step 0 1 = 0
            task 0 0 = 4
            task 0 1 = -10006
            task 0 3 = 2000
            led 1 = 24
            led 2 = 1
            """);
        Script.run("section 3: 6: begun anew without a TEXT it FAILS by 5, ahead of any STEP, also of the 2001st", at2000 + """
            drop 0 = 0
            task 0 0 = 1
            step 0 1 = 0
            task 0 1 = -10005
            task 0 3 = 2000
            """);
    }

    private static void askAndTasks() {
        Script.run("section 3: ASK does not look at TASKS' FRAMES", """
            text 0 f1(x) = 2
            text 1 x+x = 3
            start 0 0 5 = 1
            step 0 3 = 3
            ask 1 5 = 10
            ask 0 5 = 10
            led 6 = 0
            kept 55 1 = 2
            step 0 9 = 2
            task 0 1 = 10
            led 5 = 2                 # it was KEPT already
            kept 55 1 = 2
            kept 55 4 = 1
            kept 156 4 = 2
            """);
        Script.run("section 2: when a FRAME ends, its KEY is KEPT, if it isn't already", """
            text 0 x+x = 3
            start 0 0 5 = 1
            step 0 2 = 2
            ask 0 5 = 10
            ask 0 5 = 10
            step 0 1 = 1
            kept 55 3 = 3
            kept 55 4 = 2
            led 5 = 1
            count 0 = 1
            clear = 1
            start 0 0 5 = 1
            step 0 2 = 2
            ask 0 5 = 10
            clear = 1
            step 0 1 = 1
            kept 55 3 = 4
            kept 55 4 = 1
            led 5 = 3
            """);
    }
}
