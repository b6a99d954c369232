/** Promises 21 to 27: tasks, led, count. */
public final class TasksTest {
    public static void main(String[] args) {
        starts();
        steps();
        stops();
        tells();
        waits();
        rings();
        anew();
        withoutText();
        fails();
        led();
        counts();
        Script.end();
    }

    private static void starts() {
        Script.run("promise 21", """
            start -1 0 0 = BAD
            start 4 0 0 = BAD
            start 0 -1 0 = BAD
            start 0 12 0 = BAD
            start 0 0 -51 = BAD
            start 0 0 51 = BAD
            count 4 = 0
            start 0 0 0 = 4           # no TEXT
            task 0 1 = -10005
            led 2 = 1
            count 4 = 1
            text 0 x+1 = 3
            start 0 0 0 = 1
            start 0 0 1 = STATE
            start 0 0 51 = BAD
            task 0 2 = 1
            frame 0 0 = 50
            count 4 = 2
            led 1 = 1
            step 0 9 = 3
            task 0 0 = 3
            start 1 0 0 = 3           # a HIT
            task 1 1 = 1
            task 1 2 = 0
            task 1 3 = 0
            led 0 = 1
            kept 50 3 = 3
            kept 50 4 = 2
            start 0 0 50 = 1          # an ended one starts again
            start 2 0 50 = 2          # it waits
            start 2 0 1 = STATE
            task 2 2 = 0
            task 2 4 = 0
            task 2 5 = 100
            led 6 = 1
            step 0 2 = 2
            task 0 3 = 2              # since it started again
            stop 2 = 0
            start 2 0 49 = 1
            task 2 3 = 0
            """);
        Script.run("promise 21, a failed one starts again", """
            text 0 x/0 = 3
            text 1 x+1 = 3
            start 0 0 5 = 1
            step 0 9 = 3
            task 0 1 = -10002
            start 0 1 5 = 1
            task 0 1 = NOT
            task 0 3 = 0
            step 0 9 = 3
            task 0 1 = 6
            start 0 1 5 = 3
            task 0 1 = 6
            task 0 3 = 0
            kept 156 4 = 2
            """);
    }

    private static void steps() {
        Script.run("promise 22", """
            step -1 1 = BAD
            step 4 1 = BAD
            step 0 0 = BAD
            step 0 101 = BAD
            step 0 1 = STATE
            text 0 f1(x)+c0 = 4
            text 1 x*2 = 3
            start 0 0 5 = 1
            step 0 101 = BAD
            step 0 0 = BAD
            step 0 1 = 1
            task 0 2 = 1
            step 0 1 = 1              # the call's STEP: a FRAME more
            task 0 2 = 2
            frame 0 1 = 156
            step 0 2 = 2
            count 0 = 0
            task 0 2 = 2
            step 0 1 = 1              # with its last STEP a FRAME ends
            task 0 2 = 1
            count 0 = 1
            kept 156 1 = 3
            kept 156 3 = 2
            step 0 1 = 1
            step 0 100 = 1
            task 0 0 = 3
            task 0 1 = 10
            task 0 3 = 7
            kept 55 1 = 7
            kept 55 3 = 1
            kept 55 6 = 12289
            asked 55 0 = 156
            step 0 1 = STATE
            """);
        Script.run("promise 22, FRAMES that end together", """
            text 0 f1(x) = 2
            text 1 x?f2(x):0 = 5
            text 2 x?c0:1 = 4
            set 0 42 = 0
            start 0 0 5 = 1
            step 0 8 = 8
            task 0 2 = 3
            step 0 1 = 1
            task 0 0 = 3
            task 0 1 = 42
            count 0 = 3
            key 1 0 = 257
            key 1 1 = 156
            key 1 2 = 55
            kept 55 1 = 9
            kept 156 1 = 7
            kept 257 1 = 3
            """);
    }

    private static void stops() {
        Script.run("promise 23", """
            stop -1 = BAD
            stop 4 = BAD
            stop 0 = STATE
            text 0 f1(x) = 2
            text 1 f2(x) = 2
            text 2 x+1 = 3
            start 0 0 5 = 1
            step 0 5 = 5
            task 0 2 = 3
            start 1 1 5 = 2
            stop 1 = 0
            task 1 0 = 0
            task 1 4 = NOT
            stop 1 = STATE
            stop 0 = 3
            task 0 0 = 0
            task 0 1 = NOT
            task 0 2 = 0
            task 0 3 = 0
            frame 0 0 = NOT
            stop 0 = STATE
            count 5 = 0
            led 2 = 0
            start 0 2 5 = 1
            step 0 3 = 3
            stop 0 = STATE
            task 0 1 = 6
            """);
    }

    private static void tells() {
        Script.run("promises 24 and 25", """
            task -1 0 = BAD
            task 4 0 = BAD
            task 0 -1 = BAD
            task 0 6 = BAD
            task 0 0 = 0
            task 0 1 = NOT
            task 0 2 = 0
            task 0 3 = 0
            task 0 4 = NOT
            task 0 5 = NOT
            frame -1 0 = BAD
            frame 4 0 = BAD
            frame 0 -1 = BAD
            frame 0 0 = NOT
            text 3 f4(x-1) = 4
            text 4 x/c0 = 3
            start 3 3 10 = 1
            task 3 0 = 1
            task 3 1 = NOT
            task 3 4 = NOT
            task 3 5 = NOT
            frame 3 0 = 363
            frame 3 1 = NOT
            step 3 4 = 4
            frame 3 0 = 363
            frame 3 1 = 463
            frame 3 2 = NOT
            start 0 4 9 = 2
            task 0 0 = 2
            task 0 1 = NOT
            task 0 4 = 3
            task 0 5 = 463
            frame 0 0 = NOT
            step 3 100 = 3            # by / by 0
            task 3 0 = 4
            task 3 1 = -10002
            task 3 2 = 0
            task 3 3 = 7
            frame 3 0 = NOT
            task 0 0 = 2              # till it is STEPPED
            task 0 4 = 3
            step 0 1 = 1
            task 0 0 = 1
            task 0 4 = NOT
            task 0 5 = NOT
            frame 0 0 = 463
            """);
    }

    private static void waits() {
        Script.run("waits end by a HIT", """
            text 0 f2(x)+1 = 4
            text 1 f2(x) = 2
            text 2 x+c0+c0 = 5
            start 0 0 5 = 1
            step 0 3 = 3
            start 1 1 5 = 1
            step 1 9 = 2              # it waits
            task 1 0 = 2
            task 1 4 = 0
            task 1 5 = 257
            led 6 = 1
            count 4 = 4
            step 1 9 = 0              # it waits on
            task 1 0 = 2
            led 6 = 1
            count 4 = 5
            start 2 2 5 = 2
            led 6 = 2
            count 5 = 3
            step 0 4 = 4
            task 1 0 = 2
            step 1 1 = 0              # the HIT ends the call, the FRAME and the TASK
            task 1 0 = 3
            task 1 1 = 5
            task 1 3 = 2
            kept 156 1 = 2
            kept 156 6 = 24577
            asked 156 0 = 257
            led 0 = 1
            kept 257 4 = 2
            kept 257 3 = 7
            step 2 1 = 0
            task 2 0 = 3
            task 2 1 = 5
            led 0 = 2
            count 4 = 8
            """);
        Script.run("waits for what is stopped, then for another", """
            text 0 x+1+2+3+4 = 9
            text 1 f0(x)*2 = 4
            start 3 0 1 = 1
            start 0 1 1 = 1
            step 0 5 = 2
            task 0 4 = 3
            start 1 0 1 = 2
            task 1 4 = 3
            stop 3 = 1
            task 0 4 = 3
            step 1 1 = 1              # it runs the KEY now
            task 1 0 = 1
            step 0 1 = 0
            task 0 4 = 1
            task 0 0 = 2
            led 6 = 2
            step 1 100 = 8
            step 0 100 = 2
            task 0 1 = 22
            led 0 = 1
            """);
        Script.run("ASK runs what a TASK runs", """
            text 0 x+1+2 = 5
            start 0 0 1 = 1
            step 0 4 = 4
            ask 0 1 = 4
            kept 51 3 = 2
            kept 51 1 = 5
            step 0 1 = 1
            task 0 0 = 3
            kept 51 3 = 2             # it is KEPT already
            led 5 = 1
            """);
    }

    private static void rings() {
        Script.run("rings", """
            text 0 f1(x) = 2
            text 1 f2(x) = 2
            text 2 f0(x) = 2
            start 0 0 1 = 1
            start 1 1 1 = 1
            start 2 2 1 = 1
            step 0 9 = 2
            step 1 9 = 2
            task 0 4 = 1
            task 1 4 = 2
            step 2 9 = 2
            task 2 0 = 4
            task 2 1 = -10001
            led 2 = 1
            led 6 = 2
            count 4 = 6
            step 1 1 = 1              # 2 has no FRAMES now: it runs 2:1 itself
            frame 1 1 = 253
            step 1 9 = 1              # 0 waits for 1
            task 1 1 = -10001
            step 0 100 = 4
            task 0 1 = -10001         # of its own FRAMES
            led 2 = 3
            led 6 = 2
            """);
        Script.run("a ring at the start", """
            text 0 f1(x) = 2
            text 1 x+1 = 3
            start 1 1 1 = 1
            start 0 0 1 = 1
            step 0 2 = 2
            task 0 4 = 1
            step 1 3 = 3
            task 1 0 = 3
            task 0 0 = 2              # it still waits for TASK 1
            start 1 0 1 = 4
            task 1 1 = -10001
            step 0 1 = 0
            task 0 1 = 2
            """);
    }

    private static void anew() {
        Script.run("what has read a changed CELL begins anew", """
            text 0 c0+f1(x)+c2 = 6
            text 1 c1+x+x+x = 7
            start 0 0 5 = 1
            step 0 3 = 3
            set 1 7 = 0               # 1:5 hasn't read it
            task 0 2 = 2
            led 1 = 2
            step 0 3 = 3
            set 1 8 = 0
            task 0 2 = 2
            task 0 3 = 6
            led 1 = 3
            step 0 7 = 7
            kept 156 0 = 23
            kept 156 1 = 7
            kept 156 3 = 2
            task 0 2 = 1
            set 2 1 = 0               # not read yet
            led 1 = 3
            set 1 9 = 1               # by the KEY that it ASKED
            led 1 = 4
            task 0 2 = 1
            task 0 3 = 13
            step 0 3 = 3
            set 0 4 = 0               # the undermost begins anew, the one above goes
            task 0 2 = 1
            led 1 = 6
            step 0 100 = 13
            task 0 1 = 29
            task 0 3 = 29
            kept 55 1 = 13
            kept 55 3 = 1
            asked 55 0 = 156
            asked 55 1 = NOT
            """);
        Script.run("a TASK that waited then runs", """
            text 0 c0+f1(x) = 4
            text 1 x+x = 3
            start 1 1 5 = 1
            start 0 0 5 = 1
            step 0 9 = 3
            task 0 0 = 2
            set 1 5 = 0
            task 0 0 = 2
            set 0 5 = 0
            task 0 0 = 1
            task 0 4 = NOT
            task 0 2 = 1
            task 0 3 = 3
            step 0 9 = 3
            task 0 0 = 2
            led 6 = 2
            text 1 x+x+x = 5          # the RULE of what it waits for: only TASK 1 used it
            task 0 0 = 2
            led 1 = 4
            step 1 9 = 5
            step 0 9 = 1
            task 0 1 = 20
            """);
        Script.run("a TASK that waits without FRAMES waits on", """
            text 0 x+c0 = 3
            start 1 0 2 = 1
            step 1 2 = 2
            stop 1 = 1
            start 0 0 3 = 1
            start 1 0 3 = 2
            led 1 = 2
            set 0 5 = 0
            task 1 0 = 2
            task 1 2 = 0
            led 1 = 2
            text 0 x*c0 = 3
            task 1 0 = 2
            led 1 = 3
            step 0 9 = 3
            step 1 9 = 0
            task 1 1 = 15
            """);
        Script.run("a HIT is used, too", """
            text 0 f1(x)+x+x = 6
            text 1 c3 = 1
            ask 1 5 = 0
            start 0 0 5 = 1
            step 0 2 = 2
            bound 1 = 60
            bound 60 = 1
            set 3 1 = 0
            task 0 3 = 2
            led 1 = 3
            step 0 100 = 7
            task 0 1 = 11
            kept 55 1 = 7
            """);
        Script.run("of two RULES the undermost FRAME", """
            text 0 x?f0(x-1)+1:c0 = 9
            start 0 0 3 = 1
            step 0 18 = 18
            task 0 2 = 4
            set 0 9 = 0
            task 0 2 = 4
            led 1 = 4
            text 0 x?f0(x-1)+2:c0 = 9
            task 0 2 = 1
            frame 0 0 = 53
            led 1 = 5
            step 0 100 = 27
            task 0 1 = 15
            """);
    }

    private static void withoutText() {
        Script.run("begun anew without a TEXT", """
            text 0 f1(x)+1 = 4
            text 1 x+c0 = 3
            start 0 0 5 = 1
            step 0 3 = 3
            drop 1 = 0
            task 0 0 = 1
            task 0 2 = 2
            led 1 = 3
            led 2 = 0
            step 0 5 = 0
            task 0 0 = 4
            task 0 1 = -10005
            task 0 3 = 3
            led 2 = 1
            text 1 x+c0 = 3
            start 0 0 5 = 1
            step 0 3 = 3
            drop 1 = 0
            start 1 1 5 = 2           # its FRAME stands, though
            text 1 x*c0 = 3           # a TEXT comes ahead of the next STEP
            led 1 = 7
            step 0 2 = 2
            set 0 3 = 0
            led 1 = 8
            step 0 100 = 5
            task 0 1 = 16
            drop 1 = 2
            step 1 1 = 0
            task 1 1 = -10005
            """);
    }

    private static void fails() {
        Script.run("TASKS fail as ASKS do", """
            text 0 x<1?f1(x):f0(x-1)+1 = 12
            start 0 0 30 = 1
            """ + "step 0 100 = 100\n".repeat(2) + """
            step 0 100 = 40
            task 0 1 = -10004
            text 1 f1(x) = 2
            start 0 1 1 = 1
            step 0 9 = 2
            task 0 1 = -10001
            text 1 x*99*99 = 5
            start 0 1 2 = 1
            step 0 100 = 5
            task 0 1 = -10003
            text 1 f2(51) = 2
            start 0 1 2 = 1
            step 0 100 = 2
            task 0 1 = -10003
            text 1 f2(50) = 2
            start 0 1 2 = 1
            step 0 100 = 2
            task 0 1 = -10005
            led 2 = 5
            """);
        Script lasts = new Script("6: LONG");
        lasts.say("text 0 c0+" + "x+".repeat(48) + "x = 99\nstart 0 0 1 = 1");
        for (int i = 1; i <= 20; i++) {
            lasts.say("step 0 98 = 98\nset 0 " + i + " = 0\ntask 0 3 = " + 98 * i);
        }
        lasts.say("""
            step 0 39 = 39
            step 0 1 = 1
            task 0 0 = 1
            task 0 3 = 2000
            step 0 1 = 0
            task 0 0 = 4
            task 0 1 = -10006
            task 0 3 = 2000
            led 2 = 1
            led 1 = 21
            """);
        Script ends = new Script("2000 STEPS are not LONG");
        ends.say("text 0 c0+" + "x+".repeat(48) + "x = 99\nstart 0 0 1 = 1");
        for (int i = 1; i <= 19; i++) {
            ends.say("step 0 98 = 98\nset 0 " + i + " = 0");
        }
        ends.say("step 0 39 = 39\nset 0 50 = 0\nstep 0 100 = 99\ntask 0 3 = 2000\ntask 0 0 = 3\ntask 0 1 = 99");
    }

    private static void led() {
        Script.run("promise 26", """
            led -1 = BAD
            led 7 = BAD
            text 0 f1(x)+f1(x) = 5
            text 1 x+c0 = 3
            ask 0 1 = 2
            led 0 = 1
            led 1 = 2
            led 2 = 0
            led 3 = 0
            led 4 = 0
            led 5 = 2
            led 6 = 0
            ask 0 1 = 2
            led 0 = 2
            set 0 1 = 2
            led 3 = 2
            start 0 1 1 = 1
            start 1 1 1 = 2
            led 1 = 3
            led 6 = 1
            step 0 9 = 3
            led 5 = 3
            step 1 1 = 0
            led 0 = 3
            bound 2 = 60
            led 4 = 1
            ask 2 0 = -10005
            start 2 2 0 = 4
            led 2 = 2
            """);
    }

    private static void counts() {
        Script.run("promise 27", """
            count -1 = BAD
            count 6 = BAD
            text 0 f1(x)*99 = 4
            text 1 x+c0 = 3
            ask 0 11 = 1089
            count 0 = 2
            count 1 = 11
            count 2 = 2
            tape abc
            count 3 = 3
            count 4 = 2
            ask 5 5 = -10005
            count 4 = 3
            ask 0 11 = 1089
            count 4 = 4
            ask 0 51 = BAD
            count 4 = 4
            start 0 0 1 = 1
            start 1 0 1 = 2
            count 4 = 6
            count 5 = 2
            step 0 100 = 7
            count 5 = 1
            count 0 = 4
            stop 1 = 0
            count 5 = 0
            drop 1 = 4
            count 2 = 1
            count 0 = 0
            count 1 = 0
            """);
    }
}
