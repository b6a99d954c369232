/** Promises 7 to 9: ask, fresh, steps. */
public final class AskingTest {
    public static void main(String[] args) {
        values();
        fails();
        frames();
        steps();
        fresh();
        hits();
        Script.end();
    }

    private static void values() {
        Script.run("promise 7", """
            ask -1 0 = BAD
            ask 12 0 = BAD
            ask 0 51 = BAD
            ask 0 -51 = BAD
            count 4 = 0
            led 2 = 0
            text 0 x*2+c3 = 5
            ask 0 50 = 100
            ask 0 -50 = -100
            set 3 -7 = 2
            ask 0 50 = 93
            text 1 f0(x)*f0(1)+x = 7
            ask 1 3 = 8
            count 0 = 4
            key 1 0 = 100
            key 1 1 = 53
            key 1 2 = 51
            key 1 3 = 154
            """);
    }

    private static void fails() {
        Script.run("promise 7, fails", """
            text 0 f0(x) = 2
            ask 0 1 = -10001
            steps = 2
            count 4 = 2
            text 0 f1(x+1) = 4
            text 1 x<9?f0(x):x = 7
            ask 0 5 = 9
            text 1 f0(x-1) = 4
            ask 0 5 = -10001
            steps = 8
            text 0 x/c0 = 3
            ask 0 5 = -10002
            steps = 3
            text 0 5/(x-3) = 5
            ask 0 3 = -10002
            ask 0 4 = 5
            text 0 x*x*x+60 = 7
            ask 0 21 = 9321
            ask 0 22 = -10003
            ask 0 -22 = -10003
            text 0 99*99+99+99 = 7
            ask 0 0 = 9999
            text 0 99*99+99+99+1-1 = 11
            ask 0 0 = -10003          # of any NODE
            steps = 9
            text 0 -99*99-99-99 = 8
            ask 0 0 = -9999
            text 0 -99*99-99-99-1+1 = 12
            ask 0 0 = -10003
            text 0 f1(x*2) = 4
            text 1 x = 1
            ask 0 25 = 50
            ask 0 -25 = -50
            ask 0 26 = -10003
            ask 0 -26 = -10003
            steps = 4
            text 0 f2(1) = 2
            ask 0 0 = -10005
            steps = 2
            text 0 x?f2(x*99):1 = 7
            ask 0 0 = 1
            ask 0 1 = -10003          # ahead of asking a RULE without a TEXT
            led 2 = 12
            """);
        Script.run("promise 7, KEYS that were KEPT by a failed ASK stay", """
            text 0 f1(x)+f2(x) = 5
            text 1 x+1 = 3
            ask 0 5 = -10005
            steps = 7
            count 0 = 1
            kept 156 0 = 6
            kept 156 1 = 3
            kept 55 0 = NOT
            count 4 = 3
            led 1 = 2
            led 2 = 1
            led 5 = 1
            text 2 x = 1
            ask 0 5 = 11
            led 0 = 1
            steps = 6
            """);
    }

    private static void frames() {
        Script.run("promise 7, 30 FRAMES", """
            text 0 x<1?0:f0(x-1)+1 = 11
            ask 0 29 = 29
            steps = 295
            clear = 14
            ask 0 30 = -10004
            steps = 240
            count 0 = 0
            led 1 = 60
            led 2 = 1
            ask 0 -1 = 0
            text 1 x<1?f11(1):f1(x-1)+1 = 12
            ask 1 28 = -10005         # there is room for one more FRAME
            ask 1 29 = -10004         # there is none: 4 is ahead of 5
            text 2 x<1?f2(29-x):f2(x-1)+1 = 14
            ask 2 29 = -10001         # a ring is found ahead of too many FRAMES
            text 3 x<1?f4(7):f3(x-1)+1 = 12
            text 4 x = 1
            ask 3 29 = -10004
            ask 4 7 = 7
            ask 3 29 = 36             # what is KEPT needs no FRAME
            """);
    }

    private static void steps() {
        Script.run("promise 9", """
            steps = 0
            text 0 x+1 = 3
            ask 0 3 = 4
            steps = 3
            ask 0 51 = BAD
            steps = 3
            fresh 0 9 = 10
            steps = 3
            start 0 0 8 = 1
            step 0 2 = 2
            steps = 3
            ask 0 3 = 4
            steps = 0
            ask 0 4 = 5
            steps = 3
            ask 1 4 = -10005
            steps = 0
            text 1 f0(x)+f0(3)+f0(x) = 8
            ask 1 6 = 18
            steps = 11
            """);
        // A FRAME of rule 1 does 15 STEPS and two times the 27 of rule 0; the one at 0 does 5.
        Script.run("promise 9, 2000 STEPS", """
            text 0 x+x+x+x+x+x+x+x+x+x+x+x+x+x = 27
            text 1 x<1?0:f0(x)+f0(-x)+f1(x-1) = 16
            ask 1 29 = -10006
            steps = 2000
            led 2 = 1
            clear = 13
            ask 1 28 = 0
            steps = 1937
            fresh 1 28 = 0
            fresh 1 29 = -10006
            """);
        exactlyLong();
    }

    /** 2000 STEPS are not too many, 2001 are. */
    private static void exactlyLong() {
        String many = "x+".repeat(49) + "x";
        String calls = "f0(1)+f0(2)+f0(3)+f0(4)+f0(5)+f0(6)+f0(7)+f0(8)+f0(9)";
        // 9 * (2 + 99) + 8 = 917
        Script x = new Script("promise 9, just 2000");
        x.say("text 0 " + many + " = 99");
        x.say("text 1 " + calls + " = 26");
        x.say("bound 300 = 60");
        x.say("text 2 f1(0)+f0(10)+f0(11)+f0(12)+f0(13)+f0(14)+f0(15)+f0(16)+f0(17)+f0(18)+f0(19) = 32");
        x.say("ask 1 0 = 2250");
        x.say("steps = 917");
        x.say("clear = 10");
        // 917 + 2 + 10 * 101 + 10 = 1939
        x.say("ask 2 0 = 9500");
        x.say("text 0 " + "0+".repeat(49) + "x = 99");
        x.say("ask 2 0 = 190");
        x.say("steps = 1939");
        x.say("clear = 21");
        x.say("text 3 f2(0)+" + "1+".repeat(27) + "f4(1) = 59");
        // 1939 + 59 and the 2 of rule 4: 2000
        x.say("text 4 -x = 2");
        x.say("ask 3 0 = 216");
        x.say("steps = 2000");
        x.say("fresh 3 0 = 216");
        x.say("clear = 23");
        x.say("text 4 x+1 = 3");
        x.say("ask 3 0 = -10006");
        x.say("steps = 2000");
        x.say("fresh 3 0 = -10006");
        x.say("count 0 = 22");
        x.say("ask 3 0 = 219");
        x.say("steps = 59");
    }

    private static void fresh() {
        Script.run("promise 8", """
            fresh -1 0 = BAD
            fresh 12 0 = BAD
            fresh 0 51 = BAD
            fresh 0 -51 = BAD
            fresh 0 0 = -10005
            text 0 x<2?x:f0(x-1)+f0(x-2) = 14
            bound 3 = 60
            fresh 0 20 = 6765         # in thought all stays KEPT
            ask 0 20 = -10006
            led 2 = 1
            bound 300 = 3
            ask 0 20 = 6765
            fresh 0 21 = -10003
            """);
        Script.run("promise 8, counts for nothing", """
            text 0 x<1?f1(x):f0(x-1)+1 = 12
            text 1 c0 = 1
            fresh 0 9 = 9
            fresh 0 9 = 9
            set 0 5 = 0
            fresh 0 9 = 14
            fresh 0 30 = -10004
            fresh 2 0 = -10005
            count 0 = 0
            count 4 = 0
            led 0 = 0
            led 1 = 0
            led 2 = 0
            led 5 = 0
            steps = 0
            ask 0 9 = 14
            kept 59 3 = 1
            kept 59 4 = 1
            fresh 0 9 = 14
            kept 59 3 = 1
            kept 59 4 = 1
            """);
        Script.run("promise 8, TASKS are not looked at", """
            text 0 f1(x)+1 = 4
            text 1 x = 1
            start 0 0 3 = 1
            step 0 2 = 2
            frame 0 1 = 154
            fresh 0 3 = 4
            fresh 1 3 = 3
            ask 1 3 = 3
            ask 0 3 = 4
            task 0 2 = 2
            step 0 1 = 1
            """);
    }

    private static void hits() {
        Script.run("promise 7, HITS and TIME", """
            text 0 x = 1
            text 1 f0(1)+f0(1) = 5
            ask 1 0 = 2
            led 0 = 1
            kept 51 3 = 3
            kept 51 4 = 2
            kept 151 3 = 1
            kept 151 4 = 1
            kept 151 5 = 1
            ask 0 1 = 1
            led 0 = 2
            kept 51 3 = 4
            kept 51 4 = 3
            count 4 = 4
            led 1 = 2
            """);
    }
}
