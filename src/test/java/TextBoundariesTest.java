/** Each sentence of section 1 on TEXTS, NODES and STEPS that names a boundary case. */
public final class TextBoundariesTest {
    public static void main(String[] args) {
        bytes();
        choices();
        signs();
        units();
        numbers();
        indices();
        openings();
        whatIsNotOpen();
        faults();
        order();
        deepest();
        division();
        comparisons();
        Script.end();
    }

    private static void bytes() {
        Script.run("section 1: without blanks", """
            feed 32 = 1
            feed 120 = 2
            rule 0 = -100
            feed 120 = 1
            feed 32 = 2
            rule 0 = -101
            feed 120 = 1
            feed 32 = 2
            feed 43 = 3
            feed 49 = 4
            rule 0 = -101
            feed 49 = 1
            feed 32 = 2
            feed 49 = 3
            rule 0 = -101
            feed 99 = 1
            feed 32 = 2
            rule 0 = -101
            feed 120 = 1
            feed 10 = 2
            rule 0 = -101
            feed 120 = 1
            feed 0 = 2
            rule 0 = -101
            count 2 = 0
            """);
        for (int half = 0; half < 2; half++) {
            Script one = new Script("section 1: a TEXT of one byte is x or a digit; - ( c f end too early");
            for (int letter = 128 * half; letter < 128 * half + 128; letter++) {
                boolean whole = letter == 'x' || letter >= '0' && letter <= '9';
                boolean early = "-(cf".indexOf(letter) >= 0;
                one.say("feed " + letter + " = 1\nrule 3 = " + (whole ? 1 : early ? -101 : -100));
            }
        }
        for (int half = 0; half < 2; half++) {
            Script two = new Script("section 1: behind x stand only signs and ?");
            for (int letter = 128 * half; letter < 128 * half + 128; letter++) {
                boolean early = "+-*/<=?".indexOf(letter) >= 0;
                two.say("feed 120 = 1\nfeed " + letter + " = 2\nrule 3 = " + (early ? -102 : -101));
            }
        }
        for (int half = 0; half < 2; half++) {
            Script two = new Script("section 1: behind a digit stands one more digit, a sign or ?");
            for (int letter = 128 * half; letter < 128 * half + 128; letter++) {
                boolean early = "+-*/<=?".indexOf(letter) >= 0;
                boolean whole = letter >= '0' && letter <= '9';
                two.say("feed 53 = 1\nfeed " + letter + " = 2\nrule 3 = " + (whole ? 1 : early ? -102 : -101));
            }
        }
    }

    private static void choices() {
        Script.run("section 1: E: T, or T ? E : E", """
            text 0 x?1:2 = 4
            text 0 x?1:x?2:3 = 7
            text 0 x?x-1?5:6:7 = 9
            fresh 0 0 = 7
            fresh 0 1 = 6
            fresh 0 2 = 5
            text 0 ?1:2 = -100
            text 0 x?:2 = -102
            text 0 x?1 = -103
            text 0 x?1:: = -104
            text 0 x?1: = -104
            text 0 x?1;2 = -103
            text 0 x?1:2:3 = -105
            text 0 x:1 = -101
            text 0 x??1:2:3 = -102
            text 0 x?1?2:3 = -107
            text 0 (x?1):2 = -104
            """);
        Script.run("section 1: T ? E : E, what stands behind : is the rest of E", """
            text 0 x?1:x-1?2:3 = 9
            fresh 0 0 = 2
            fresh 0 1 = 1
            fresh 0 5 = 1
            text 0 (x?1:x-1)?2:3 = 9
            fresh 0 0 = 2
            fresh 0 1 = 2
            text 0 x?1:2<1 = 6
            fresh 0 0 = 0
            fresh 0 1 = 1
            """);
    }

    private static void signs() {
        Script.run("section 1: T: S, or S < S, or S = S, one of them", """
            text 0 1<2 = 3
            text 0 1=2 = 3
            text 0 1<2<3 = -103
            text 0 1<2=3 = -103
            text 0 1=2<3 = -103
            text 0 1=2=3 = -103
            text 0 (1<2)<3 = 5
            text 0 1<(2<3) = 5
            text 0 1<2?3<4:5=6 = 10
            text 0 x?1<2<3:4 = -105
            text 0 <1 = -100
            text 0 =1 = -100
            text 0 1< = -102
            text 0 1= = -102
            text 0 1<=2 = -102
            text 0 1==2 = -102
            text 0 1>2 = -101
            """);
        Script.run("section 1: S: P { + P, - P }, from the left", """
            text 0 9-3-2 = 5
            fresh 0 0 = 4
            text 0 9-3+2 = 5
            fresh 0 0 = 8
            text 0 9+3-2 = 5
            fresh 0 0 = 10
            text 0 9-2*3 = 5
            fresh 0 0 = 3
            text 0 9*2-3 = 5
            fresh 0 0 = 15
            text 0 8-4/2 = 5
            fresh 0 0 = 6
            text 0 +1 = -100
            text 0 1+ = -102
            text 0 1- = -102
            text 0 1++2 = -102
            text 0 1-+2 = -102
            text 0 1+-2 = 4
            fresh 0 0 = -1
            text 0 1--2 = 4
            fresh 0 0 = 3
            text 0 2<1+2 = 5
            fresh 0 0 = 1
            text 0 1+2=3 = 5
            fresh 0 0 = 1
            """);
        Script.run("section 1: P: U { * U, / U }, from the left", """
            text 0 24/4/2 = 5
            fresh 0 0 = 3
            text 0 24/4*2 = 5
            fresh 0 0 = 12
            text 0 3*5/2 = 5
            fresh 0 0 = 7
            text 0 3/2*5 = 5
            fresh 0 0 = 5
            text 0 *1 = -100
            text 0 /1 = -100
            text 0 1* = -102
            text 0 1/ = -102
            text 0 1**2 = -102
            text 0 1*/2 = -102
            text 0 1//2 = -102
            text 0 2*-3 = 4
            fresh 0 0 = -6
            text 0 6/-3 = 4
            fresh 0 0 = -2
            """);
    }

    private static void units() {
        Script.run("section 1: U: a number, x, c and f with numbers, - U, ( E )", """
            text 0 7 = 1
            text 0 x = 1
            text 0 c3 = 1
            text 0 f0(x) = 2
            text 0 -7 = 2
            text 0 (7) = 1
            text 0 -x = 2
            text 0 -c3 = 2
            text 0 -f0(x) = 3
            text 0 -(x) = 2
            text 0 --x = 3
            text 0 () = -101
            text 0 (7 = -102
            text 0 7) = -101
            text 0 (7)) = -103
            text 0 (7)(8) = -103
            text 0 7(8) = -101
            text 0 x(8) = -101
            text 0 xx = -101
            text 0 x7 = -101
            text 0 7x = -101
            text 0 c3x = -102
            text 0 f0(x)x = -105
            text 0 f0(x)7 = -105
            text 0 - = -101
            text 0 -) = -101
            text 0 -+1 = -101
            text 0 (x?1:2) = 4
            text 0 (1<2) = 3
            text 0 f0(x?1:2) = 5
            text 0 f0(1<2) = 4
            text 0 X = -100
            text 0 C0 = -100
            text 0 F0(1) = -100
            """);
        Script.run("section 1: - U is worked out ahead of * and /", """
            text 0 -2/0 = 4
            ask 0 0 = -10002
            steps = 4
            text 0 2/-0 = 4
            ask 0 0 = -10002
            steps = 4
            text 0 -2*99*99 = 6
            ask 0 0 = -10003
            steps = 6
            """);
    }

    private static void numbers() {
        Script.run("section 1: a number (1 or 2 digits)", """
            text 0 0 = 1
            fresh 0 5 = 0
            text 0 9 = 1
            fresh 0 5 = 9
            text 0 00 = 1
            fresh 0 5 = 0
            text 0 07 = 1
            fresh 0 5 = 7
            text 0 10 = 1
            fresh 0 5 = 10
            text 0 99 = 1
            fresh 0 5 = 99
            text 0 100 = -102
            text 0 000 = -102
            text 0 999 = -102
            text 0 1+100 = -104
            text 0 100+ = -102
            fresh 0 5 = 99
            """);
    }

    private static void indices() {
        Script.run("section 1: c and a number (0 .. 11)", """
            set 0 5 = 0
            set 1 6 = 0
            set 9 7 = 0
            set 10 8 = 0
            set 11 9 = 0
            text 0 c0 = 1
            fresh 0 0 = 5
            text 0 c00 = 1
            fresh 0 0 = 5
            text 0 c1 = 1
            fresh 0 0 = 6
            text 0 c01 = 1
            fresh 0 0 = 6
            text 0 c09 = 1
            fresh 0 0 = 7
            text 0 c10 = 1
            fresh 0 0 = 8
            text 0 c11 = 1
            fresh 0 0 = 9
            text 0 c12 = -101
            text 0 c99 = -101
            text 0 c110 = -103
            text 0 c011 = -103
            text 0 c = -101
            text 0 cx = -101
            text 0 cc0 = -101
            text 0 c-1 = -101
            text 0 c(1) = -101
            """);
        Script.run("section 1: f and a number (0 .. 11), ( E ) behind it", """
            text 7 x = 1
            text 10 x+1 = 3
            text 11 x+2 = 3
            text 0 f7(5) = 2
            fresh 0 0 = 5
            text 0 f07(5) = 2
            fresh 0 0 = 5
            text 0 f10(5) = 2
            fresh 0 0 = 6
            text 0 f11(5) = 2
            fresh 0 0 = 7
            text 0 f00(5) = 2
            text 0 f0(5) = 2
            text 0 f12(5) = -101
            text 0 f99(5) = -101
            text 0 f110(5) = -103
            text 0 f011(5) = -103
            text 0 f = -101
            text 0 fx = -101
            text 0 f(5) = -101
            text 0 f-1(5) = -101
            text 0 f1 = -102
            text 0 f11 = -103
            text 0 f1x = -102
            text 0 f1-1 = -102
            text 0 f1( = -103
            text 0 f1() = -103
            text 0 f1(5 = -104
            text 0 f1(5+ = -105
            text 0 f1(5)( = -105
            """);
    }

    private static void openings() {
        Script.run("section 1: at most 5 of - ahead of a U are open at once", """
            text 0 -----x = 6
            fresh 0 3 = -3
            text 0 ------x = -105
            text 0 x------x = 8
            text 0 x-------x = -107
            text 0 1*-----x = 8
            text 0 1*------x = -107
            """);
        Script.run("section 1: at most 5 ( are open at once", """
            text 0 (((((x))))) = 1
            text 0 ((((((x)))))) = -105
            text 0 x+(((((x))))) = 3
            text 0 x+((((((x)))))) = -107
            """);
        Script.run("section 1: the ( behind f is one of them", """
            text 0 f0(f0(f0(f0(f0(x))))) = 6
            text 0 f0(f0(f0(f0(f0(f0(x)))))) = -117
            text 0 f0((((((x)))))) = -107
            text 0 f0(((((x))))) = 2
            text 0 (((((f0(x)))))) = -107
            text 0 ((((f0(x))))) = 2
            """);
        Script.run("section 1: at most 5 E behind ? are open at once", """
            text 0 1?1?1?1?1?2:3:4:5:6:7 = 16
            fresh 0 0 = 2
            text 0 1?1?1?1?1?1?2:3:4:5:6:7:8 = -111
            """);
        Script.run("section 1: of - ( ? together at most 5 are open at once", """
            text 0 --(((x))) = 3
            text 0 --((((x)))) = -105
            text 0 (((--x))) = 3
            text 0 (((---x))) = -105
            text 0 x?----x:x = 8
            text 0 x?-----x:x = -106
            text 0 x?((((x)))):x = 4
            text 0 x?(((((x))))):x = -106
            text 0 ((((x?1:2)))) = 4
            text 0 (((((x?1:2))))) = -106
            text 0 x?x?--(x):1:2 = 9
            text 0 x?x?--((x)):1:2 = -107
            text 0 -(x?-(1):2) = 6
            text 0 -(x?-(x?1:2):3) = -107
            text 0 -f0(x?-(1):2) = 7
            text 0 -f0(x?-(-1):2) = -108
            """);
    }

    private static void whatIsNotOpen() {
        Script.run("section 1: E behind ? is open till its :", """
            text 0 x?----1:-----2 = 13
            text 0 x?----1:------2 = -113
            text 0 x?x?x?x?x?1:2:3:4:5:x?x?x?x?x?1:2:3:4:5:6 = 31
            text 0 x?x?x?x?x?1:x?x?1:2:3:4:5:6:7 = -115
            """);
        Script.run("section 1: E behind : is none", """
            text 0 x?1:-----x = 9
            text 0 x?1:------x = -109
            text 0 x?1:x?1:x?1:x?1:x?1:x?1:x?1:-----x = 27
            text 0 x?1:x?1:x?1:x?1:x?1:x?1:x?1:(((((x))))) = 22
            """);
        Script.run("section 1: what is closed isn't open", """
            text 0 -----x+-----x*-----x = 20
            text 0 (((((x)))))+(((((x)))))<(((((x))))) = 5
            text 0 (((((x)+(x))+(x))+(x))+(x)) = 9
            text 0 f0(f0(f0(x)))+f0(f0(f0(x))) = 9
            text 0 (x?1:2)+(x?1:2)+(x?1:2) = 14
            """);
        Script.run("section 1: the sign - between two parts opens nothing", """
            text 0 x-x-x-x-x-x-x-x = 15
            text 0 (((((x-x-x))))) = 5
            text 0 -----x-x-x = 10
            """);
    }

    private static void faults() {
        Script.run("section 1: FAULT of a number behind c, f above 11: where it begins", """
            text 0 c12 = -101
            text 0 f12(x) = -101
            text 0 x+c99 = -103
            text 0 (f20(x)) = -102
            text 0 c120 = -101
            text 0 c12x = -101
            text 0 f12x = -101
            text 0 c12) = -101
            """);
        Script.run("section 1: FAULT of a - , ( , ? too many: its place", """
            text 0 ------ = -105
            text 0 (((((( = -105
            text 0 (((((- = -105
            text 0 -----( = -105
            text 0 -----f0( = -107
            text 0 (((((x? = -106
            text 0 x?x?x?x?x?x? = -111
            text 0 ------c12 = -105
            text 0 ------) = -105
            """);
        Script.run("section 1: FAULT, otherwise the place of the first byte with which no TEXT goes on", """
            text 0 ) = -100
            text 0 x) = -101
            text 0 (x+) = -103
            text 0 -----) = -105
            text 0 ((((() = -105
            text 0 )c12 = -100
            text 0 x)c12 = -101
            text 0 x)------ = -101
            text 0 x?1)((((((x = -103
            text 0 x<1<c12 = -103
            text 0 (x<1<2) = -104
            """);
        Script.run("section 1: FAULT: the size, if it ends too early", """
            rule 0 = -100
            text 0 - = -101
            text 0 ( = -101
            text 0 c = -101
            text 0 f = -101
            text 0 f1 = -102
            text 0 (x = -102
            text 0 x+ = -102
            text 0 x? = -102
            text 0 x?1 = -103
            text 0 x?1: = -104
            text 0 ----- = -105
            text 0 ((((( = -105
            text 0 (((((x)))) = -110
            """);
        Script.run("section 1: FAULT: the size, of a full TAPE", "text 0 " + "x+".repeat(50) + " = -200");
        Script.run("section 1: FAULT: of the last byte of a full TAPE", "text 0 " + "x+".repeat(49) + "c( = -199");
        Script.run("section 1: FAULT: a number above 11 at the end of a full TAPE",
            "text 0 " + "x+".repeat(48) + "-c12 = -198");
    }

    private static void order() {
        Script.run("section 1: parts are worked out from the left", """
            text 0 1/0+99*99*99 = 9
            ask 0 0 = -10002
            steps = 3
            text 0 99*99*99+1/0 = 9
            ask 0 0 = -10003
            steps = 5
            text 0 (1/0)*f5(1) = 6
            ask 0 0 = -10002
            steps = 3
            text 0 f5(1)*(1/0) = 6
            ask 0 0 = -10005
            steps = 2
            text 0 f5(1)<1/0 = 6
            ask 0 0 = -10005
            text 0 1/0=f5(1) = 6
            ask 0 0 = -10002
            """);
        Script.run("section 1: a choice, when what stands ahead of ? is, then one of the two", """
            text 0 x?1:2 = 4
            ask 0 1 = 1
            steps = 3
            ask 0 0 = 2
            steps = 3
            text 0 x?1:1/0 = 6
            ask 0 1 = 1
            steps = 3
            ask 0 0 = -10002
            steps = 5
            text 0 x?1/0:1 = 6
            ask 0 0 = 1
            steps = 3
            ask 0 1 = -10002
            steps = 5
            """);
        Script.run("section 1: a choice, if that is not 0", """
            text 0 x?1:2 = 4
            fresh 0 -50 = 1
            fresh 0 -1 = 1
            fresh 0 0 = 2
            fresh 0 1 = 1
            fresh 0 50 = 1
            """);
        Script.run("section 1: to work out a NODE is one STEP", """
            text 0 5 = 1
            ask 0 0 = 5
            steps = 1
            text 0 x = 1
            ask 0 0 = 0
            steps = 1
            text 0 c0 = 1
            ask 0 0 = 0
            steps = 1
            text 0 -5 = 2
            ask 0 0 = -5
            steps = 2
            text 0 (((5))) = 1
            ask 0 0 = 5
            steps = 1
            text 0 1+2*3/4-5 = 9
            ask 0 0 = -3
            steps = 9
            text 0 1<2 = 3
            ask 0 0 = 1
            steps = 3
            text 0 1=2 = 3
            ask 0 0 = 0
            steps = 3
            text 1 f0(1) = 2
            ask 0 1 = 0
            ask 1 0 = 0
            steps = 2
            """);
    }

    /** Each 0<1-2*( ) turns 1 and 0 around, six of them leave them as they are. */
    private static void deepest() {
        String part = "0<1-2*";
        String text = (part + "(").repeat(5) + part + "x" + ")".repeat(5);
        Script.run("section 1: a NODE, when its parts are worked out: as many as can wait in 5 brackets",
            "text 0 " + text + " = 37\nask 0 0 = 0\nsteps = 37\nask 0 1 = 1\nfresh 0 0 = 0\nfresh 0 1 = 1");
        String choice = "0<1-2*(x<2?0<1-2*(x<2?0<1-2*x:9):9)";
        Script.run("section 1: a NODE, when its parts are worked out: in choices, too",
            "text 0 " + choice + " = 29\nask 0 0 = 1\nsteps = 27\nask 0 1 = 0\nask 0 2 = 0\nsteps = 11");
    }

    private static void division() {
        Script.run("section 1: / is cut toward 0", """
            text 0 x/2 = 3
            fresh 0 7 = 3
            fresh 0 -7 = -3
            fresh 0 1 = 0
            fresh 0 -1 = 0
            fresh 0 0 = 0
            text 0 x/-2 = 4
            fresh 0 7 = -3
            fresh 0 -7 = 3
            fresh 0 1 = 0
            fresh 0 -1 = 0
            """);
        Script.run("section 1: a run FAILS: 2 by / by 0", """
            text 0 6/x = 3
            ask 0 0 = -10002
            ask 0 1 = 6
            ask 0 -1 = -6
            ask 0 7 = 0
            text 0 0/x = 3
            ask 0 0 = -10002
            ask 0 1 = 0
            """);
    }

    private static void comparisons() {
        Script.run("section 1: < = give 1, 0", """
            text 0 x<5 = 3
            fresh 0 4 = 1
            fresh 0 5 = 0
            fresh 0 6 = 0
            fresh 0 -50 = 1
            text 0 x=5 = 3
            fresh 0 4 = 0
            fresh 0 5 = 1
            fresh 0 6 = 0
            fresh 0 -5 = 0
            text 0 0-x<x = 5
            fresh 0 0 = 0
            fresh 0 1 = 1
            fresh 0 -1 = 0
            """);
    }
}
