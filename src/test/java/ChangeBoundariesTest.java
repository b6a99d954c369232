/** Each sentence of section 3 on CHANGES that TASKS have read, and of promises 26 and 27, that names a boundary case. */
public final class ChangeBoundariesTest {
    public static void main(String[] args) {
        whoBeginsAnew();
        whoDoesNot();
        undermost();
        withNothingDone();
        aboveGo();
        waiting();
        withoutText();
        ledRanges();
        ledCounts();
        countRanges();
        countsOf();
        Script.end();
    }

    private static void whoBeginsAnew() {
        Script.run("section 3: the FRAME that USED it so far: by its own reading, the first STEP", """
            text 0 c0+c1+c0 = 5
            start 0 0 3 = 1
            set 0 1 = 0
            led 1 = 1
            step 0 1 = 1
            set 0 2 = 0
            led 1 = 2
            set 1 5 = 0
            led 1 = 2
            step 0 2 = 2
            set 1 6 = 0
            led 1 = 3
            step 0 9 = 5
            task 0 1 = 10
            task 0 3 = 8
            kept 53 1 = 5
            """);
        Script.run("section 3: the FRAME that USED it so far: CELLS 0 and 11", """
            text 0 c0+c11+x = 5
            start 0 0 3 = 1
            step 0 2 = 2
            set 10 1 = 0
            set 1 1 = 0
            led 1 = 1
            set 11 1 = 0
            led 1 = 2
            step 0 1 = 1
            set 0 1 = 0
            led 1 = 3
            """);
        Script.run("section 3: the FRAME that USED it so far: its RULE, ahead of any STEP", """
            text 0 x+x = 3
            text 11 x+x = 3
            start 0 0 3 = 1
            start 1 11 3 = 1
            text 0 x+5 = 3
            led 1 = 3
            text 11 x+6 = 3
            led 1 = 4
            step 0 9 = 3
            task 0 1 = 8
            step 1 9 = 3
            task 1 1 = 9
            """);
        Script.run("section 3: a TEXT that is the same one begins it anew, too", """
            text 0 x+x = 3
            start 0 0 3 = 1
            step 0 2 = 2
            text 0 x+x = 3
            led 1 = 2
            step 0 9 = 3
            task 0 3 = 5
            """);
        Script.run("section 3: by KEYS that it ASKED and whose VALUES it has: one that ran", """
            text 0 f1(x)+x = 4
            text 1 c1 = 1
            start 0 0 3 = 1
            step 0 3 = 3
            task 0 2 = 1
            set 1 5 = 1
            led 1 = 3
            step 0 9 = 5
            task 0 1 = 8
            task 0 3 = 8
            """);
        Script.run("section 3: by KEYS that it ASKED and whose VALUES it has: a HIT", """
            text 0 f1(x)+x = 4
            text 1 c1 = 1
            ask 1 3 = 0
            start 0 0 3 = 1
            step 0 2 = 2
            text 1 c1+1 = 3
            led 1 = 3
            step 0 9 = 7
            task 0 1 = 4
            """);
        Script.run("section 3: by KEYS that it ASKED and whose VALUES it has: one that isn't KEPT any more", """
            text 0 f1(x)+x = 4
            text 1 c1 = 1
            start 0 0 3 = 1
            step 0 3 = 3
            clear = 1
            set 1 5 = 0
            led 1 = 3
            step 0 9 = 5
            task 0 1 = 8
            """);
        Script.run("section 3: by KEYS that it ASKED: those that a HIT ASKED, too", """
            text 0 f1(x)+x = 4
            text 1 f2(x) = 2
            text 2 c2 = 1
            ask 1 3 = 0
            start 0 0 3 = 1
            step 0 2 = 2
            set 2 1 = 2
            led 1 = 4
            """);
    }

    private static void whoDoesNot() {
        Script.run("section 3: a KEY that runs in a FRAME above it isn't yet ASKED by it", """
            text 0 f1(x)+x = 4
            text 1 c1+x = 3
            start 0 0 3 = 1
            step 0 3 = 3
            set 1 5 = 0
            led 1 = 3
            task 0 2 = 2
            frame 0 0 = 53
            frame 0 1 = 154
            step 0 9 = 5
            task 0 1 = 11
            task 0 3 = 8
            kept 53 1 = 8
            kept 154 1 = 3
            """);
        Script.run("section 3: a KEY that a FRAME waits for isn't yet ASKED by it", """
            text 0 f1(x)+x = 4
            text 1 c1+x = 3
            start 1 1 3 = 1
            step 1 1 = 1
            start 0 0 3 = 1
            step 0 9 = 2
            set 1 5 = 0
            led 1 = 3
            task 0 0 = 2
            text 1 c1+x+1 = 5
            led 1 = 4
            task 0 0 = 2
            step 1 9 = 5
            step 0 9 = 2
            task 0 1 = 12
            task 0 3 = 4
            """);
        Script.run("section 3: in each TASK that runs or waits: not in one that ended, failed or is idle", """
            text 0 c0+x = 3
            text 1 c0/0 = 3
            start 0 0 3 = 1
            step 0 9 = 3
            start 1 1 3 = 1
            step 1 9 = 3
            start 2 0 4 = 1
            step 2 1 = 1
            stop 2 = 1
            set 0 5 = 1
            led 1 = 3
            count 0 = 0
            task 0 0 = 3
            task 0 1 = 3
            task 1 0 = 4
            task 1 1 = -10002
            task 2 0 = 0
            count 5 = 0
            """);
        Script.run("section 3: in each TASK: all four", """
            text 0 c0+x = 3
            start 0 0 0 = 1
            start 1 0 1 = 1
            start 2 0 2 = 1
            start 3 0 3 = 1
            step 0 1 = 1
            step 1 1 = 1
            step 2 1 = 1
            step 3 1 = 1
            set 0 5 = 0
            led 1 = 8
            step 0 3 = 3
            step 1 3 = 3
            step 2 3 = 3
            step 3 3 = 3
            task 0 1 = 5
            task 1 1 = 6
            task 2 1 = 7
            task 3 1 = 8
            task 3 3 = 4
            """);
        Script.run("section 3: what isn't CHANGED begins nothing anew", """
            text 0 c0+x = 3
            set 0 5 = 0
            start 0 0 3 = 1
            step 0 2 = 2
            set 0 5 = 0
            set 0 100 = BAD
            text 0 c = -101
            drop 1 = STATE
            bound 1 = 60
            policy 3 = 0
            clear = 0
            led 1 = 1
            step 0 1 = 1
            task 0 1 = 8
            """);
        Script.run("section 3: a TASK that waits without a FRAME waits on", """
            text 0 c0+x = 3
            start 1 0 3 = 1
            step 1 1 = 1
            start 0 0 3 = 2
            set 0 5 = 0
            text 0 c0+x = 3
            drop 0 = 0
            task 0 0 = 2
            task 0 4 = 1
            task 0 2 = 0
            led 1 = 4
            step 0 1 = 0
            task 0 0 = 2
            step 1 1 = 0
            task 1 1 = -10005
            step 0 1 = 0
            task 0 1 = -10005
            """);
    }

    private static void undermost() {
        Script.run("section 3: the undermost FRAME that USED it, of three", """
            text 0 c0+f1(x)+c1 = 6
            text 1 c0+f2(x)+c2 = 6
            text 2 c0+c3+x = 5
            start 0 0 3 = 1
            step 0 8 = 8
            task 0 2 = 3
            set 3 1 = 0
            task 0 2 = 3
            led 1 = 4
            set 0 1 = 0
            task 0 2 = 1
            led 1 = 5
            step 0 6 = 6
            task 0 2 = 3
            step 0 100 = 11
            task 0 1 = 7
            task 0 3 = 25
            """);
        Script.run("section 3: the undermost FRAME that USED it: one RULE twice", """
            text 0 x?f0(x-1)+1:c0 = 9
            start 0 0 2 = 1
            step 0 12 = 12
            task 0 2 = 3
            text 0 x?f0(x-1)+2:c0 = 9
            task 0 2 = 1
            frame 0 0 = 52
            led 1 = 4
            step 0 100 = 19
            task 0 1 = 4
            """);
        Script.run("section 3: the undermost FRAME that USED it: one in the middle, those below stay", """
            text 0 f1(x)+x = 4
            text 1 c1+f2(x) = 4
            text 2 c2+x = 3
            start 0 0 3 = 1
            step 0 7 = 7
            task 0 2 = 3
            set 1 7 = 0
            task 0 2 = 2
            frame 0 0 = 53
            frame 0 1 = 154
            step 0 100 = 9
            task 0 1 = 13
            kept 154 1 = 7
            kept 53 1 = 16
            """);
    }

    private static void withNothingDone() {
        Script.run("section 3: begins anew, with nothing done (its COST, too); STEPS of the TASK stay", """
            text 0 c0+x+x+x = 7
            start 0 0 3 = 1
            step 0 6 = 6
            set 0 1 = 0
            task 0 2 = 1
            task 0 3 = 6
            step 0 6 = 6
            task 0 0 = 1
            step 0 1 = 1
            task 0 1 = 10
            task 0 3 = 13
            kept 53 1 = 7
            kept 53 3 = 1
            kept 53 4 = 1
            count 4 = 1
            """);
        Script.run("section 3: begins anew, with nothing done: what it ASKED and USED is forgotten", """
            text 0 c0?f1(x):f2(x)+c2 = 8
            text 1 c1 = 1
            text 2 x = 1
            set 0 1 = 0
            start 0 0 3 = 1
            step 0 5 = 5
            task 0 0 = 3
            clear = 2
            start 0 0 3 = 1
            step 0 3 = 3
            set 0 0 = 0
            step 0 100 = 7
            task 0 1 = 3
            kept 53 5 = 1
            asked 53 0 = 255
            kept 53 6 = 20485
            kept 53 2 = 4
            """);
        Script.run("section 3: begins anew: begun, done for, begun twice more", """
            text 0 c0+x = 3
            start 0 0 3 = 1
            step 0 1 = 1
            set 0 1 = 0
            set 0 2 = 0
            led 1 = 2
            text 0 c0-x = 3
            text 0 c0+x = 3
            led 1 = 4
            step 0 3 = 3
            task 0 1 = 5
            """);
    }

    private static void aboveGo() {
        Script.run("section 3: FRAMES above it go: none of them is KEPT, others may run their KEYS", """
            text 0 c0+f1(x) = 4
            text 1 x+x = 3
            start 0 0 3 = 1
            step 0 5 = 5
            task 0 2 = 2
            start 1 1 3 = 2
            set 0 1 = 0
            task 0 2 = 1
            frame 0 1 = NOT
            count 0 = 0
            task 1 0 = 2
            step 1 1 = 1
            task 1 0 = 1
            step 0 3 = 3
            task 0 0 = 2
            task 0 4 = 1
            """);
        Script.run("section 3: FRAMES above it go: what they USED begins nothing anew", """
            text 0 c0+f1(x) = 4
            text 1 c1+x = 3
            start 0 0 3 = 1
            step 0 4 = 4
            task 0 2 = 2
            set 0 1 = 0
            led 1 = 3
            set 1 1 = 0
            text 1 x+c1 = 3
            led 1 = 3
            task 0 2 = 1
            step 0 100 = 7
            task 0 1 = 5
            """);
        Script.run("section 3: FRAMES of an earlier run of the TASK are none", """
            text 0 c0+f1(x) = 4
            text 1 c1+x = 3
            start 0 0 3 = 1
            step 0 4 = 4
            stop 0 = 2
            start 1 0 3 = 1
            start 0 0 3 = 2
            set 0 1 = 0
            set 1 1 = 0
            led 1 = 3
            task 0 0 = 2
            task 0 2 = 0
            task 1 2 = 1
            """);
        Script.run("section 3: FRAMES above it that have ended stay KEPT", """
            text 0 c0+f1(x)+x = 6
            text 1 x+x = 3
            start 0 0 3 = 1
            step 0 6 = 6
            count 0 = 1
            set 0 1 = 0
            count 0 = 1
            step 0 9 = 6
            task 0 1 = 10
            led 0 = 1
            """);
    }

    private static void waiting() {
        Script.run("section 3: a TASK that waited then runs", """
            text 0 c0+f1(x) = 4
            text 1 x+x = 3
            start 1 1 3 = 1
            start 0 0 3 = 1
            step 0 9 = 3
            task 0 0 = 2
            set 0 1 = 0
            task 0 0 = 1
            task 0 1 = NOT
            task 0 2 = 1
            task 0 3 = 3
            task 0 4 = NOT
            task 0 5 = NOT
            count 4 = 3
            led 6 = 1
            step 0 2 = 2
            task 0 0 = 1
            count 4 = 3
            step 0 1 = 1
            task 0 0 = 2
            led 6 = 2
            count 4 = 4
            """);
        Script.run("section 3: a TASK that waited then runs: nobody waits by it any more", """
            text 0 c0+f1(x) = 4
            text 1 f0(x) = 2
            start 1 1 3 = 1
            start 0 0 3 = 1
            step 0 9 = 3
            task 0 0 = 2
            set 0 1 = 0
            step 1 9 = 2
            task 1 0 = 2
            step 0 9 = 3
            task 0 1 = -10001
            led 6 = 2
            """);
        Script.run("section 3: a TASK that waits and USED nothing of it waits on", """
            text 0 c0+f1(x) = 4
            text 1 x+x = 3
            start 1 1 3 = 1
            start 0 0 3 = 1
            step 0 9 = 3
            set 1 1 = 0
            task 0 0 = 2
            task 0 5 = 154
            led 1 = 2
            """);
    }

    private static void withoutText() {
        Script.run("section 3: if its RULE has no TEXT now, it FAILS by 5 when it is STEPPED next, ahead of any STEP", """
            text 0 x+x = 3
            start 0 0 3 = 1
            step 0 2 = 2
            drop 0 = 0
            task 0 0 = 1
            task 0 1 = NOT
            task 0 2 = 1
            task 0 3 = 2
            frame 0 0 = 53
            led 2 = 0
            count 5 = 1
            step 0 1 = 0
            task 0 0 = 4
            task 0 1 = -10005
            task 0 2 = 0
            task 0 3 = 2
            led 2 = 1
            count 4 = 1
            """);
        Script.run("section 3: if its RULE has a TEXT again when it is STEPPED next, it runs", """
            text 0 x+x = 3
            start 0 0 3 = 1
            step 0 2 = 2
            drop 0 = 0
            text 0 x+7 = 3
            step 0 9 = 3
            task 0 1 = 10
            task 0 3 = 5
            """);
        Script.run("section 3: its RULE has no TEXT now: of a FRAME above that went nothing comes", """
            text 0 f1(x)+x = 4
            text 1 f0(x-1)+x = 6
            start 0 0 3 = 1
            step 0 2 = 2
            drop 0 = 0
            task 0 2 = 1
            step 0 1 = 0
            task 0 1 = -10005
            """);
        Script.run("section 3: its RULE has no TEXT now: one above of another RULE stays below it", """
            text 0 f1(x)+x = 4
            text 1 x+x = 3
            start 0 0 3 = 1
            step 0 4 = 4
            drop 1 = 0
            task 0 2 = 2
            step 0 1 = 0
            task 0 1 = -10005
            count 4 = 2
            """);
        Script.run("section 3: its RULE has no TEXT now: the TASK is stopped ahead of its next STEP", """
            text 0 x+x = 3
            start 0 0 3 = 1
            drop 0 = 0
            stop 0 = 1
            led 2 = 0
            start 0 0 3 = 4
            led 2 = 1
            """);
        Script.run("section 3: its RULE has no TEXT now: a TASK that waited runs, and fails", """
            text 0 f1(x)+x = 4
            text 1 x+x = 3
            start 1 1 3 = 1
            start 0 0 3 = 1
            step 0 9 = 2
            task 0 0 = 2
            drop 0 = 0
            task 0 0 = 1
            step 0 1 = 0
            task 0 1 = -10005
            count 4 = 3
            """);
    }

    private static void ledRanges() {
        Script led = Script.run("promise 26: BAD", "led MIN = BAD\nled -1 = BAD\nled 7 = BAD\nled MAX = BAD");
        for (int what = 0; what < 7; what++) {
            led.say("led " + what + " = 0");
        }
    }

    private static void ledCounts() {
        Script.run("promise 26: HITS: of ask(), of calls, of starts, of waits that end by one", """
            text 0 x+x = 3
            text 1 f0(3) = 2
            ask 0 3 = 6
            led 0 = 0
            ask 0 3 = 6
            led 0 = 1
            ask 1 0 = 6
            led 0 = 2
            start 0 0 3 = 3
            led 0 = 3
            start 1 0 4 = 1
            start 2 0 4 = 2
            step 1 9 = 3
            led 0 = 3
            step 2 1 = 0
            led 0 = 4
            """);
        Script.run("promise 26: FRAMES begun (those begun anew, too), also those of runs that FAILED", """
            text 0 f1(x) = 2
            text 1 c0/0 = 3
            ask 0 0 = -10002
            led 1 = 2
            ask 2 0 = -10005
            led 1 = 2
            start 0 0 0 = 1
            led 1 = 3
            step 0 3 = 3
            led 1 = 4
            set 0 1 = 0
            led 1 = 5
            """);
        Script.run("promise 26: ASKS and TASKS that FAILED, not FRESH", """
            ask 0 0 = -10005
            led 2 = 1
            start 0 0 0 = 4
            led 2 = 2
            fresh 0 0 = -10005
            led 2 = 2
            ask 0 51 = BAD
            led 2 = 2
            text 0 x/0 = 3
            start 0 0 0 = 1
            stop 0 = 1
            led 2 = 2
            start 0 0 0 = 1
            step 0 3 = 3
            led 2 = 3
            """);
        Script.run("promise 26: KEYS THROWN OUT, KEYS that went by BOUND, KEYS KEPT: each counts alone", """
            text 0 c0 = 1
            ask 0 0 = 0
            ask 0 1 = 0
            set 0 1 = 2
            led 3 = 2
            led 4 = 0
            led 5 = 2
            ask 0 0 = 1
            ask 0 1 = 1
            bound 3 = 60
            led 3 = 2
            led 4 = 1
            led 5 = 4
            ask 0 5 = 1
            led 4 = 2
            led 5 = 5
            clear = 1
            led 3 = 2
            led 4 = 2
            led 5 = 5
            drop 0 = 0
            led 3 = 2
            """);
    }

    private static void countRanges() {
        Script count = Script.run("promise 27: BAD", "count MIN = BAD\ncount -1 = BAD\ncount 6 = BAD\ncount MAX = BAD");
        for (int what = 0; what < 6; what++) {
            count.say("count " + what + " = 0");
        }
    }

    private static void countsOf() {
        Script rules = new Script("promise 27: RULES with a TEXT: 0 .. 12");
        for (int rule = 0; rule < 12; rule++) {
            rules.say("text " + rule + " x = 1\ncount 2 = " + (rule + 1) + "\ntext " + rule + " 7 = 1\ncount 2 = " + (rule + 1));
        }
        for (int rule = 0; rule < 12; rule++) {
            rules.say("drop " + rule + " = 0\ncount 2 = " + (11 - rule));
        }
        Script.run("promise 27: KEPT KEYS, their WEIGHTS together", """
            text 0 x = 1
            text 1 f0(x)+f0(10) = 5
            ask 0 1 = 1
            count 0 = 1
            count 1 = 3
            ask 1 1 = 11
            count 0 = 3
            count 1 = 13
            drop 1 = 1
            count 0 = 2
            count 1 = 7
            clear = 2
            count 0 = 0
            count 1 = 0
            """);
        Script.run("promise 27: bytes of THE TAPE", """
            count 3 = 0
            feed 120 = 1
            count 3 = 1
            feed 256 = BAD
            count 3 = 1
            rule 12 = BAD
            count 3 = 1
            rule 0 = 1
            count 3 = 0
            """);
        Script.run("promise 27: TASKS running or waiting: 0 .. 4", """
            text 0 x+x = 3
            start 0 0 3 = 1
            count 5 = 1
            start 1 0 3 = 2
            count 5 = 2
            start 2 0 4 = 1
            start 3 0 3 = 2
            count 5 = 4
            step 2 9 = 3
            count 5 = 3
            stop 3 = 0
            count 5 = 2
            drop 0 = 1
            count 5 = 2
            step 0 1 = 0
            count 5 = 1
            step 1 1 = 0
            count 5 = 0
            """);
    }
}
