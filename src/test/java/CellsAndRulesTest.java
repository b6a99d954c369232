/** Promises 1 to 6, and the grammar of TEXTS. */
public final class CellsAndRulesTest {
    public static void main(String[] args) {
        newObject();
        feeding();
        rules();
        faults();
        limits();
        drops();
        cells();
        Script.end();
    }

    private static void newObject() {
        Script.run("promise 1", """
            count 0 = 0
            count 1 = 0
            count 2 = 0
            count 3 = 0
            count 4 = 0
            count 5 = 0
            steps = 0
            next = NOT
            clear = 0
            key 0 0 = NOT
            key 1 0 = NOT
            wave 0 = NOT
            cell 0 = 0
            cell 11 = 0
            drop 0 = STATE
            drop 11 = STATE
            task 0 0 = 0
            task 3 0 = 0
            bound 60 = 60
            policy 0 = 0
            ask 11 50 = -10005
            """);
        for (int i = 0; i < 7; i++) {
            Script.run("promise 1, led", "led " + i + " = 0");
        }
    }

    private static void feeding() {
        Script bytes = Script.run("promise 2", """
            feed -1 = BAD
            feed 256 = BAD
            feed 0 = 1
            feed 255 = 2
            count 3 = 2
            """);
        for (int i = 3; i <= 100; i++) {
            bytes.say("feed 120 = " + i);
        }
        bytes.say("""
            feed 120 = FULL
            feed -1 = BAD
            feed 256 = BAD
            count 3 = 100
            rule 0 = -100
            count 3 = 0
            feed 120 = 1
            """);
    }

    private static void rules() {
        Script.run("promise 3", """
            tape x+1
            rule -1 = BAD
            rule 12 = BAD
            count 3 = 3
            rule 11 = 3
            count 3 = 0
            count 2 = 1
            ask 11 4 = 5
            text 11 x+ = -102        # a FAULT leaves the RULE as it was, what is KEPT too
            count 3 = 0
            count 2 = 1
            count 0 = 1
            ask 11 4 = 5
            led 0 = 1
            text 11 x+1 = 3          # the same TEXT is a change, too
            count 0 = 0
            led 3 = 1
            wave 0 = 1165
            text 11 x+2 = 3
            wave 0 = NOT
            ask 11 4 = 6
            text 0 12 = 1
            text 0 99+x*c11-f11(x)/(x<1)=-5 = 15
            text 0 x?1:x?2:x?3:4 = 10
            text 0 x?x?1:2:3 = 7
            text 0 (x?1:2)?c0?1:2:(3) = 10
            text 0 (((((x))))) = 1
            text 0 x--1 = 4
            text 0 -x*-x = 5
            text 0 x<-1 = 4
            text 0 c00+c07 = 3
            text 0 f0(f1(f2(f3(f4(x))))) = 6
            text 0 f07(1)+f010(x) = -110
            """);
        Script.run("promise 3, how signs bind", """
            text 0 2+3*4-5 = 7
            ask 0 0 = 9
            text 0 10-3-2 = 5
            ask 0 0 = 5
            text 0 90/5/4 = 5
            ask 0 0 = 4
            text 0 7/2*2 = 5
            ask 0 0 = 6
            text 0 -7/2 = 4
            ask 0 0 = -3
            text 0 7/-2 = 4
            ask 0 0 = -3
            text 0 -(7+2)*3 = 6
            ask 0 0 = -27
            text 0 1+1<3 = 5
            ask 0 0 = 1
            text 0 3<1+1 = 5
            ask 0 0 = 0
            text 0 2=1+1?10+1:20+2 = 12
            ask 0 0 = 11
            text 0 2=1+2?10+1:20+2 = 12
            ask 0 0 = 22
            text 0 x?1:x+1?2:3 = 9
            ask 0 5 = 1
            ask 0 0 = 2
            ask 0 -1 = 1
            text 0 (x?1:2)+10 = 6
            ask 0 1 = 11
            ask 0 0 = 12
            text 0 x?1:2+10 = 6
            ask 0 1 = 1
            ask 0 0 = 12
            """);
    }

    private static void faults() {
        Script.run("promise 3, faults of the grammar", """
            rule 0 = -100             # an empty TAPE ends too early
            text 0 a = -100
            text 0 + = -100
            text 0 ) = -100
            text 0 x) = -101
            text 0 xx = -101
            text 0 x1 = -101
            text 0 1x = -101
            text 0 123 = -102
            text 0 c = -101
            text 0 cx = -101
            text 0 c1 = 1
            text 0 c011 = -103
            text 0 f = -101
            text 0 fx = -101
            text 0 f1 = -102
            text 0 f1x = -102
            text 0 f1( = -103
            text 0 f1() = -103
            text 0 f1(x = -104
            text 0 f1(x)( = -105
            text 0 (x = -102
            text 0 (x? = -103
            text 0 (x?1) = -104
            text 0 x?1 = -103
            text 0 x?1: = -104
            text 0 x?:1 = -102
            text 0 x?1:2:3 = -105
            text 0 x?1:2? = -106
            text 0 x:1 = -101
            text 0 x<1<2 = -103
            text 0 x<1=2 = -103
            text 0 x=1<2 = -103
            text 0 x<1?x<2:x<3<4 = -111
            text 0 (x<1)<2 = 5
            text 0 x<1?2<3:4<5 = 10
            text 0 x++1 = -102
            text 0 x+-1 = 4
            text 0 x*/1 = -102
            text 0 -- = -102
            text 0 X = -100
            feed 120 = 1
            feed 32 = 2
            feed 43 = 3
            rule 0 = -101             # no blanks
            feed 248 = 1
            rule 0 = -100
            count 2 = 1
            """);
    }

    private static void limits() {
        Script.run("promise 3, faults of the limits", """
            text 0 c11 = 1
            text 0 c12 = -101
            text 0 c99 = -101
            text 0 c121 = -101
            text 0 x+c20+( = -103
            text 0 f11(x) = 2
            text 0 f12(x) = -101
            text 0 f12 = -101
            text 0 f99x = -101
            text 0 )f12 = -100
            text 0 -----x = 6
            text 0 ------x = -105
            text 0 ------ = -105
            text 0 x------x = 8
            text 0 x-------x = -107
            text 0 -x+-x+-x+-x+-x+-x = 17
            text 0 -----x*-----x = 13
            text 0 (((((x)+(x))))) = 3
            text 0 ((((((x = -105
            text 0 -(-(-x)) = 4
            text 0 -(-(-(x))) = -105
            text 0 -(-(--x)) = -105
            text 0 f0(f0(f0(f0(f0(x))))) = 6
            text 0 f0(f0(f0(f0(f0(f0(x)))))) = -117
            text 0 x?x?x?x?x?1:1:1:1:1:1 = 16
            text 0 x?x?x?x?x?x?1:1:1:1:1:1:1 = -111
            text 0 x?1:x?1:x?1:x?1:x?1:x?1:x?1:1 = 22
            text 0 x?1:-----x = 9
            text 0 x?-----x:1 = -106
            text 0 x?-x?-x:-x:-(x?x:-x) = 15
            text 0 (x?(x?(x:1):1):1) = -108
            text 0 (x?(x?(x?1:1):1):1) = -108
            text 0 (x?(x?(x)+1:1):1) = 9
            """);
        String name = "promise 3, 100 bytes";
        Script.run(name, "text 0 " + "x+".repeat(49) + "xx = -199");
        Script.run(name, "text 0 " + "x+".repeat(50) + " = -200");
        Script.run(name, "text 0 -" + "x+".repeat(49) + "x = 100");
        Script.run(name, "text 0 " + "x?1:".repeat(24) + "1?2 = -199");
        Script most = Script.run(name, "text 0 " + "x?1:".repeat(24) + "1 = 73");
        most.say("ask 0 0 = 1");
        most.say("steps = 49");
        most.say("ask 0 1 = 1");
        most.say("steps = 3");
        String calls = "f1(f2(f3(f4(f5(x)))))";
        most.say("text 0 " + calls + "+f6(x)+f7(x)+f8(x) = 15");
    }

    private static void drops() {
        Script.run("promise 4", """
            drop -1 = BAD
            drop 12 = BAD
            drop 3 = STATE
            text 3 x+c0 = 3
            text 4 f3(x)+f3(1) = 5
            text 5 x = 1
            ask 5 0 = 0
            ask 4 9 = 10
            count 0 = 4
            drop 3 = 3
            wave 0 = 362
            wave 1 = 354
            wave 2 = 463
            wave 3 = NOT
            led 3 = 3
            count 0 = 1
            count 2 = 2
            drop 3 = STATE
            wave 0 = 362              # a refusal changes nothing
            drop 4 = 0
            wave 0 = NOT
            count 2 = 1
            ask 3 0 = -10005
            """);
    }

    private static void cells() {
        Script.run("promises 5 and 6", """
            set -1 0 = BAD
            set 12 0 = BAD
            set 0 100 = BAD
            set 0 -100 = BAD
            cell -1 = BAD
            cell 12 = BAD
            cell 0 = 0
            set 0 99 = 0
            set 11 -99 = 0
            cell 0 = 99
            cell 11 = -99
            text 0 c0?c1:c2 = 4
            text 1 f0(1) = 2
            ask 1 7 = 0
            set 2 5 = 0               # it isn't read by this run
            count 0 = 2
            set 1 0 = 0               # it is that already
            wave 0 = NOT
            set 1 3 = 2
            cell 1 = 3
            wave 0 = 51
            wave 1 = 158
            set 1 3 = 0
            wave 0 = 51
            ask 1 7 = 3
            set 0 0 = 2
            ask 1 7 = 5
            set 1 9 = 0
            wave 0 = NOT
            set 2 6 = 2
            led 3 = 6
            set 2 100 = BAD
            wave 0 = 51
            """);
    }
}
