/** Each sentence of sections 1, 2 and 4 on runs, and of promises 7 to 9, that names a boundary case. */
public final class AskBoundariesTest {
    private static final String MANY = "0+".repeat(49) + "x";
    private static final String CALLS = "f0(1)+f0(2)+f0(3)+f0(4)+f0(5)+f0(6)+f0(7)+f0(8)+f0(9)"
        + "+f0(10)+f0(11)+f0(12)+f0(13)+f0(14)+f0(15)";
    // 2 + 15 * (2 + 99) + 14 STEPS for f1(0), 2 + 99 + 1 for each of four f0, 2 for each of 29 ones
    private static final String STEPS_1997 = "f1(0)+f0(16)+f0(17)+f0(18)+f0(19)" + "+1".repeat(29);

    public static void main(String[] args) {
        failed();
        values();
        arguments();
        rings();
        frames();
        longRuns();
        failsTogether();
        hits();
        whatStays();
        steps();
        fresh();
        freshAsksOnce();
        freshIsInThought();
        Script.end();
    }

    private static void failed() {
        Script.run("section 4 and promise 7: FAILED: -10000 less what it FAILED by", """
            text 0 f0(x) = 2
            ask 0 0 = -10001
            text 0 1/0 = 3
            ask 0 0 = -10002
            text 0 99*99*99 = 5
            ask 0 0 = -10003
            text 0 x<50?f0(x+1):0 = 9
            ask 0 0 = -10004
            ask 1 0 = -10005
            text 0 0*f1(x)+0*f1(-x)+(x?f0(x-1):0) = 18
            text 1 0+1+2+3+4+5+6+7+8+9+10+11+12+13+14+15+16+17+18+19+20+21+22+23+24+25+26+27+28 = 57
            ask 0 29 = -10006
            led 2 = 6
            """);
        Script.run("promise 7: BAD: no such RULE, ARGUMENT; TIME stands still", """
            text 0 x = 1
            text 11 x = 1
            ask MIN 0 = BAD
            ask -1 0 = BAD
            ask 12 0 = BAD
            ask MAX 0 = BAD
            ask 0 MIN = BAD
            ask 0 -51 = BAD
            ask 0 51 = BAD
            ask 0 MAX = BAD
            ask 12 51 = BAD
            count 4 = 0
            led 2 = 0
            ask 0 50 = 50
            ask 11 -50 = -50
            count 4 = 2
            """);
    }

    private static void values() {
        Script.run("section 1: FAILS by 3: a value above 9999", """
            text 0 99*99+99+99+x = 9
            ask 0 -1 = 9998
            ask 0 0 = 9999
            ask 0 1 = -10003
            steps = 9
            ask 0 50 = -10003
            """);
        Script.run("section 1: FAILS by 3: a value below -9999", """
            text 0 -99*99-99-99-x = 10
            ask 0 -1 = -9998
            ask 0 0 = -9999
            ask 0 1 = -10003
            steps = 10
            ask 0 50 = -10003
            """);
        Script.run("section 1: FAILS by 3: a value (of any NODE)", """
            text 0 99*99+99+99+1-1 = 11
            ask 0 0 = -10003
            steps = 9
            text 0 0*(99*99*2) = 7
            ask 0 0 = -10003
            steps = 6
            text 0 99*99*2<0 = 7
            ask 0 0 = -10003
            text 0 99*99*2?1:2 = 8
            ask 0 0 = -10003
            steps = 5
            text 0 x?1:99*99*2 = 8
            ask 0 1 = 1               # the NODE isn't worked out
            ask 0 0 = -10003
            text 0 -(99*99+99+99) = 8
            ask 0 0 = -9999
            text 0 -(99*99+99+99)-x = 10
            ask 0 0 = -9999
            ask 0 1 = -10003
            """);
        Script.run("section 1: FAILS by 3: a product that is far outside", """
            text 0 99*99+99+99 = 7
            text 1 f0(x)*f0(x) = 5
            ask 0 0 = 9999
            ask 1 0 = -10003
            text 1 f0(x)*-f0(x) = 6
            ask 1 0 = -10003
            text 1 f0(x)*x = 4
            ask 1 1 = 9999
            ask 1 -1 = -9999
            ask 1 2 = -10003
            ask 1 -2 = -10003
            """);
    }

    private static void arguments() {
        Script.run("section 1: FAILS by 3: a call's argument above 50", """
            text 0 f1(x+49) = 4
            text 1 x = 1
            ask 0 0 = 49
            ask 0 1 = 50
            ask 0 2 = -10003
            steps = 4
            ask 0 50 = -10003
            """);
        Script.run("section 1: FAILS by 3: a call's argument below -50", """
            text 0 f1(x-49) = 4
            text 1 x = 1
            ask 0 0 = -49
            ask 0 -1 = -50
            ask 0 -2 = -10003
            steps = 4
            ask 0 -50 = -10003
            """);
        Script.run("section 1: FAILS by 3: a call's argument that is far outside", """
            text 0 f11(99*99+99+99) = 8
            text 11 x = 1
            ask 0 0 = -10003
            text 0 f0(-99*99-99-99) = 9
            ask 0 0 = -10003
            text 0 f0(51) = 2
            ask 0 0 = -10003
            text 1 f0(-51) = 3
            ask 1 0 = -10003
            """);
        Script.run("section 2: a call's argument is looked at in its STEP, ahead of asking", """
            text 0 f1(x+50) = 4
            ask 0 1 = -10003          # RULE 1 has no TEXT: not by 5
            count 4 = 1
            steps = 4
            ask 0 0 = -10005
            count 4 = 3
            """);
    }

    private static void rings() {
        Script.run("section 2: one of a FRAME that stands: it FAILS by RING", """
            text 0 f0(x) = 2
            ask 0 5 = -10001
            steps = 2
            count 4 = 2
            led 1 = 1
            text 0 f1(x) = 2
            text 1 f2(x) = 2
            text 2 f0(x) = 2
            ask 0 5 = -10001
            steps = 6
            count 4 = 6
            text 2 f2(x) = 2
            ask 0 5 = -10001
            text 2 f1(x) = 2
            ask 0 5 = -10001
            led 2 = 4
            """);
        Script.run("section 2: a FRAME of the same RULE with another ARGUMENT is no RING", """
            text 0 x?f0(0):7 = 5
            ask 0 50 = 7
            ask 0 -50 = 7
            """);
        Script.run("section 2: a FRAME that has ended doesn't stand", """
            text 0 f1(x)+f1(x)+f2(x) = 8
            text 1 x = 1
            text 2 f1(x) = 2
            ask 0 5 = 15
            led 0 = 2
            """);
        Script.run("section 2: (of this ASK): an ASK that failed leaves no FRAME", """
            text 0 f1(x)/0 = 4
            text 1 x = 1
            ask 0 5 = -10002
            text 1 x?f0(0):1 = 5
            ask 1 5 = -10002
            text 0 x = 1
            ask 1 5 = 0
            """);
    }

    private static void frames() {
        Script thirty = Script.run("section 1: FAILS by 4: more than 30 FRAMES", """
            text 0 x?f0(x-1):7 = 7
            ask 0 29 = 7
            steps = 177
            led 1 = 30
            led 5 = 30
            clear = 15
            ask 0 30 = -10004
            steps = 180
            led 1 = 60
            led 2 = 1
            led 5 = 30
            count 4 = 61
            count 0 = 0
            """);
        thirty.say("fresh 0 29 = 7\nfresh 0 30 = -10004\nask 0 28 = 7");
        Script.run("section 2: it FAILS by 4, or else by 5", """
            text 0 x?f0(x-1):f1(0) = 8
            ask 0 28 = -10005
            ask 0 29 = -10004
            fresh 0 28 = -10005
            fresh 0 29 = -10004
            """);
        Script.run("section 2: a RING is ahead of 4", """
            text 0 x?f0(x-1):f0(29) = 8
            ask 0 29 = -10001
            fresh 0 29 = -10001
            text 0 x?f0(x-1):f0(30) = 8
            ask 0 29 = -10004
            """);
        Script.run("section 2: what is KEPT needs no FRAME, of 30 that stand", """
            text 0 x?f0(x-1):f1(3) = 8
            text 1 x = 1
            ask 0 29 = -10004
            ask 1 3 = 3
            ask 0 29 = 3
            led 0 = 1
            fresh 0 29 = -10004
            """);
        Script.run("section 2: FRAMES that stand count, not those that ended", """
            bound 300 = 60
            text 0 x?f0(x-1)+f1(x):f1(0) = 11
            text 1 x+1 = 3
            ask 0 28 = 435
            led 1 = 58
            ask 0 29 = 465
            clear = 59                # 0:28 went: 304 is above 300
            ask 0 29 = -10004         # f1(0) is the 31st
            """);
    }

    private static void longRuns() {
        Script most = new Script("section 1: FAILS by 6, LONG: 2000 STEPS are not");
        most.say("text 0 " + MANY + " = 99\ntext 1 " + CALLS + " = 44\ntext 2 " + STEPS_1997 + "+-1 = 75");
        most.say("ask 2 0 = 218\nsteps = 2000\nled 2 = 0\nfresh 2 0 = 218");
        Script long6 = new Script("section 1: FAILS by 6, LONG: a 2001st STEP would come; it isn't done");
        long6.say("text 0 " + MANY + " = 99\ntext 1 " + CALLS + " = 44\ntext 2 " + STEPS_1997 + "+--1 = 76");
        long6.say("ask 2 0 = -10006\nsteps = 2000\nled 2 = 1\nled 5 = 20\nled 1 = 21\nfresh 2 0 = -10006");
        Script call = new Script("section 2: the 2001st isn't done: a call asks nothing then");
        call.say("text 0 " + MANY + " = 99\ntext 1 " + CALLS + " = 44\ntext 2 " + STEPS_1997 + "+f0(--1) = 77");
        call.say("ask 2 0 = -10006\nsteps = 2000\ncount 4 = 21\nled 0 = 0");
        Script zero = new Script("section 2: the 2001st isn't done: / by 0 isn't, either");
        zero.say("text 0 " + MANY + " = 99\ntext 1 " + CALLS + " = 44\ntext 2 " + STEPS_1997 + "+-1/0 = 77");
        zero.say("ask 2 0 = -10006\nsteps = 2000");
        Script last = new Script("section 2: the 2000th is done: it fails as it does");
        last.say("text 0 " + MANY + " = 99\ntext 1 " + CALLS + " = 44\ntext 2 " + STEPS_1997 + "+1/0 = 76");
        last.say("ask 2 0 = -10002\nsteps = 2000");
        Script again = new Script("section 1: STEPS are counted anew for each ASK");
        again.say("bound 300 = 60\ntext 0 " + MANY + " = 99\ntext 1 " + CALLS + " = 44\ntext 2 " + STEPS_1997 + "+--1 = 76");
        again.say("ask 2 0 = -10006\ncount 0 = 20\nask 2 0 = 220\nsteps = 76");
    }

    private static void failsTogether() {
        Script.run("section 2: a KEPT KEY is ahead of a RULE without a TEXT: there is none KEPT of one", """
            text 0 x = 1
            ask 0 1 = 1
            drop 0 = 1
            ask 0 1 = -10005
            kept 51 0 = NOT
            """);
        Script.run("section 1: FAILS by 5: a RULE without a TEXT", """
            ask 0 0 = -10005
            steps = 0
            count 4 = 1
            led 1 = 0
            led 2 = 1
            text 0 f1(x) = 2
            ask 0 0 = -10005
            steps = 2
            count 4 = 3
            led 1 = 1
            text 0 x?f1(x):3 = 5
            ask 0 0 = 3
            ask 0 1 = -10005
            """);
    }

    private static void hits() {
        Script.run("section 2: ASK of a KEY: if it is KEPT, its VALUE (a HIT)", """
            text 0 x+1 = 3
            ask 0 3 = 4
            led 0 = 0
            led 1 = 1
            ask 0 3 = 4
            led 0 = 1
            led 1 = 1
            led 5 = 1
            steps = 0
            """);
        Script.run("section 2: TIME, 0 at first; the first one gets 1", """
            count 4 = 0
            text 0 x = 1
            ask 0 3 = 3
            count 4 = 1
            kept 53 3 = 1
            """);
        Script.run("section 2: TIME goes on by one with each KEY that is asked, whatever comes of it", """
            ask 0 0 = -10005
            count 4 = 1
            text 0 f0(x) = 2
            ask 0 0 = -10001
            count 4 = 3
            text 0 f1(x) = 2
            ask 0 0 = -10005
            count 4 = 5
            text 0 f0(51) = 2
            ask 0 0 = -10003          # no KEY is asked with 51
            count 4 = 6
            text 0 1/0 = 3
            ask 0 0 = -10002
            count 4 = 7
            text 0 x = 1
            ask 0 0 = 0
            count 4 = 8
            ask 0 0 = 0
            count 4 = 9
            ask 0 51 = BAD
            count 4 = 9
            fresh 0 1 = 1
            count 4 = 9
            start 0 0 0 = 3
            count 4 = 10
            """);
        Script.run("section 2: a HIT makes the KEY's TIME that, its ASKS one more", """
            text 0 x = 1
            text 1 f0(3)+f0(3) = 5
            ask 0 3 = 3
            kept 53 3 = 1
            kept 53 4 = 1
            ask 0 3 = 3
            kept 53 3 = 2
            kept 53 4 = 2
            ask 1 0 = 6
            kept 53 3 = 5
            kept 53 4 = 4
            kept 151 3 = 3
            kept 151 4 = 1
            start 0 0 3 = 3
            kept 53 3 = 6
            kept 53 4 = 5
            """);
        Script.run("section 2: a KEY that RUNS has the TIME of its asking, ASKS 1", """
            text 0 f1(x)+f1(1) = 5
            text 1 x = 1
            ask 0 0 = 1
            kept 50 3 = 1
            kept 151 3 = 2
            kept 152 3 = 3
            kept 50 4 = 1
            kept 151 4 = 1
            kept 152 4 = 1
            clear = 3
            ask 1 0 = 0
            kept 151 3 = 4
            kept 151 4 = 1
            """);
    }

    private static void whatStays() {
        Script.run("section 2: if anything FAILS, KEYS that were KEPT by it stay, its FRAMES are never KEPT", """
            text 0 f1(x)+f2(x)+1/0 = 9
            text 1 f3(x) = 2
            text 2 f3(x)+f3(1) = 5
            text 3 x = 1
            ask 0 9 = -10002
            count 0 = 4
            kept 362 0 = 9
            kept 160 0 = 9
            kept 354 0 = 1
            kept 261 0 = 10
            kept 59 0 = NOT
            led 5 = 4
            led 1 = 5
            led 0 = 1
            """);
        Script.run("section 2: failed runs are never KEPT: each ASK runs again", """
            text 0 1/x = 3
            ask 0 0 = -10002
            ask 0 0 = -10002
            steps = 3
            led 0 = 0
            led 1 = 2
            led 2 = 2
            count 0 = 0
            """);
        Script.run("section 2: COST: STEPS from when its FRAME began to when it ended, one at least", """
            text 0 f1(x)+1 = 4
            text 1 f2(x)+x+x = 6
            text 2 7 = 1
            ask 0 3 = 14
            kept 53 1 = 11
            kept 154 1 = 7
            kept 255 1 = 1
            steps = 11
            text 0 f1(x)+2 = 4
            ask 0 3 = 15
            kept 53 1 = 4             # a HIT has no STEPS of its own
            """);
        Script twice = new Script("section 2: ASKED: each once, in order; 22 of them");
        twice.say("bound 300 = 60");
        for (int i = 0; i < 5; i++) {
            twice.say("text " + i + " x = 1");
        }
        String five = "f0(f1(f2(f3(f4(%)))))";
        twice.say("text 5 " + five.replace('%', '1') + "+" + five.replace('%', '2') + "+" + five.replace('%', '3') + "+"
            + five.replace('%', '4') + "+f0(f1(5)) = 31");
        twice.say("ask 5 0 = 15\nkept 555 5 = 22\nkept 555 2 = 26\nkept 555 6 = 258048\nasked 555 22 = NOT\nchain 555 = 2");
        int i = 0;
        for (int argument = 1; argument <= 4; argument++) {
            for (int rule = 4; rule >= 0; rule--) {
                twice.say("asked 555 " + i + " = " + (101 * rule + argument + 50));
                i++;
            }
        }
        twice.say("asked 555 20 = 156\nasked 555 21 = 55");
        Script.run("section 2: ASKED: none, and the same KEY many times is one", """
            text 0 x = 1
            text 1 f0(x)+f0(x)+f0(x)+f0(x)+f0(x)+f0(x) = 17
            ask 1 2 = 12
            kept 153 5 = 1
            asked 153 0 = 52
            asked 153 1 = NOT
            kept 52 5 = 0
            asked 52 0 = NOT
            kept 52 4 = 6
            """);
    }

    private static void steps() {
        Script.run("promise 9: 0: none yet, a HIT", """
            steps = 0
            text 0 x+1 = 3
            ask 0 1 = 2
            steps = 3
            ask 0 1 = 2
            steps = 0
            """);
        Script.run("promise 9: also a failed one", """
            text 0 x+1/0 = 5
            ask 0 1 = -10002
            steps = 4
            ask 5 1 = -10005
            steps = 0
            text 0 f0(x) = 2
            ask 0 1 = -10001
            steps = 2
            """);
        Script.run("promise 9: of the latest ASK by ask(); one that is BAD is none", """
            text 0 x+1 = 3
            ask 0 1 = 2
            ask 0 51 = BAD
            ask 12 0 = BAD
            steps = 3
            """);
        Script.run("promise 9: fresh() and TASKS leave it", """
            text 0 x+1 = 3
            text 1 x = 1
            ask 1 1 = 1
            steps = 1
            fresh 0 1 = 2
            steps = 1
            fresh 5 1 = -10005
            steps = 1
            start 0 0 5 = 1
            steps = 1
            step 0 2 = 2
            steps = 1
            step 0 1 = 1
            steps = 1
            start 0 0 5 = 3
            steps = 1
            """);
    }

    private static void fresh() {
        Script.run("promise 8: BAD", """
            text 0 x = 1
            text 11 x = 1
            fresh MIN 0 = BAD
            fresh -1 0 = BAD
            fresh 12 0 = BAD
            fresh MAX 0 = BAD
            fresh 0 MIN = BAD
            fresh 0 -51 = BAD
            fresh 0 51 = BAD
            fresh 0 MAX = BAD
            fresh 0 -50 = -50
            fresh 11 50 = 50
            """);
        Script.run("section 4: FRESH: FAILED as an ASK", """
            text 0 f0(x) = 2
            fresh 0 0 = -10001
            text 0 1/0 = 3
            fresh 0 0 = -10002
            text 0 99*99*99 = 5
            fresh 0 0 = -10003
            text 0 f0(51) = 2
            fresh 0 0 = -10003
            text 0 x<50?f0(x+1):0 = 9
            fresh 0 20 = -10004
            fresh 0 21 = 0
            fresh 1 0 = -10005
            led 2 = 0
            """);
        Script.run("section 4: FRESH: with nothing KEPT at first", """
            bound 300 = 60
            text 0 x?f0(x-1):7 = 7
            ask 0 29 = 7
            ask 0 30 = 7
            fresh 0 30 = -10004
            fresh 0 29 = 7
            """);
        Script.run("section 4: FRESH: no BOUND", """
            bound 1 = 60
            text 0 x<2?x:f0(x-1)+f0(x-2) = 14
            fresh 0 20 = 6765
            ask 0 20 = -10006
            ask 0 3 = 2
            """);
        Script.run("section 4: FRESH: what it worked out is forgotten by the next one", """
            text 0 c0+x = 3
            fresh 0 1 = 1
            set 0 5 = 0
            fresh 0 1 = 6
            text 0 c0-x = 3
            fresh 0 1 = 4
            drop 0 = 0
            fresh 0 1 = -10005
            """);
    }

    private static void freshAsksOnce() {
        for (String rule : "0 11".split(" ")) {
            String key = rule.equals("0") ? "0(-50)" : "11(50)";
            String twelve = ("+f" + key).repeat(12).substring(1);
            int nodes = rule.equals("0") ? 47 : 35;
            Script asks = new Script("section 4: FRESH: what ASK would answer: a KEY that was worked out is KEPT in thought");
            asks.say("text " + rule + " 1" + "+0".repeat(48) + " = 97\ntext 1 " + twelve + " = " + nodes);
            asks.say("text 2 f1(0)+f1(1) = 5\nfresh 2 0 = 24\nbound 1 = 60\nask 2 0 = -10006");
        }
    }

    private static void freshIsInThought() {
        Script.run("promise 26: FRESH counts for nothing", """
            text 0 f1(x)+f1(x)+f1(1) = 8
            text 1 x+c0 = 3
            fresh 0 2 = 5
            fresh 5 0 = -10005
            led 0 = 0
            led 1 = 0
            led 2 = 0
            led 3 = 0
            led 4 = 0
            led 5 = 0
            led 6 = 0
            count 0 = 0
            count 4 = 0
            """);
        Script.run("section 4: FRESH leaves what is KEPT and TASKS as they are", """
            text 0 f1(x)+f1(x)+f1(1) = 8
            text 1 x+c0 = 3
            ask 0 2 = 5
            start 2 0 3 = 1
            step 2 4 = 4
            fresh 0 2 = 5
            fresh 0 3 = 7
            fresh 1 3 = 3
            kept 52 3 = 1
            kept 52 4 = 1
            kept 153 4 = 2
            count 0 = 3
            count 4 = 6
            task 2 2 = 2
            task 2 3 = 4
            step 2 1 = 1
            """);
    }
}
