/** Each sentence of section 1 on CELLS, RULES and KEYS, and of promises 1 to 6, that names a boundary case. */
public final class CellBoundariesTest {
    public static void main(String[] args) {
        newObject();
        lastCalls();
        ranges();
        keys();
        feed();
        rule();
        ruleFaultChangesNothing();
        drop();
        set();
        cell();
        Script.end();
    }

    private static void newObject() {
        Script none = new Script("promise 1: No rules");
        Script zero = new Script("section 1: a NUMBER, 0 at first");
        for (int i = 0; i < 12; i++) {
            none.say("drop " + i + " = STATE\nask " + i + " 0 = -10005\nfresh " + i + " 0 = -10005");
            zero.say("cell " + i + " = 0\nset " + i + " 0 = 0\ncell " + i + " = 0");
        }
        none.say("count 2 = 0");
        Script.run("promise 1: nothing kept", """
            count 0 = 0
            count 1 = 0
            key 0 0 = NOT
            key 1 0 = NOT
            next = NOT
            clear = 0
            kept 0 0 = NOT
            kept 1211 0 = NOT
            wave 0 = NOT
            led 5 = 0
            """);
        Script.run("promise 1: THE TAPE is empty", """
            count 3 = 0
            rule 0 = -100
            feed 120 = 1
            """);
        Script tasks = new Script("promise 1 and section 3: TASKS, each idle (at first)");
        for (int task = 0; task < 4; task++) {
            String lines = "task % 0 = 0\ntask % 1 = NOT\ntask % 2 = 0\ntask % 3 = 0\ntask % 4 = NOT\ntask % 5 = NOT\n"
                + "stop % = STATE\nstep % 1 = STATE\nframe % 0 = NOT";
            tasks.say(lines.replace("%", "" + task));
        }
    }

    /** Four bytes and rule(), set(), bound(), 500 asks by turns, and five looks: 512 calls. */
    private static void lastCalls() {
        Script last = new Script("what it is: an object is used for at most 512 calls: the last ones answer as any");
        last.say("text 0 c0+x = 3\nset 0 5 = 0\nbound 12 = 60");
        for (int i = 0; i < 500; i++) {
            int argument = i % 4;
            last.say("ask 0 %d = %d".formatted(argument, argument + 5));
        }
        last.say("count 4 = 500\nled 0 = 496\nled 5 = 4\nset 0 6 = 4\nwave 3 = 53");
    }

    private static void ranges() {
        Script.run("section 1: CELLS 0 .. 11", """
            cell MIN = BAD
            cell -1 = BAD
            cell 12 = BAD
            cell MAX = BAD
            set MIN 1 = BAD
            set -1 1 = BAD
            set 12 1 = BAD
            set MAX 1 = BAD
            set 0 5 = 0
            set 11 6 = 0
            cell 0 = 5
            cell 11 = 6
            cell 1 = 0
            cell 10 = 0
            """);
        Script.run("section 1: a NUMBER (-99 .. 99)", """
            set 5 99 = 0
            cell 5 = 99
            set 5 100 = BAD
            set 5 MAX = BAD
            cell 5 = 99
            set 5 -99 = 0
            cell 5 = -99
            set 5 -100 = BAD
            set 5 MIN = BAD
            cell 5 = -99
            set 5 0 = 0
            cell 5 = 0
            """);
        Script.run("section 1: RULES 0 .. 11", """
            text 0 1 = 1
            text 11 2 = 1
            count 2 = 2
            ask 0 0 = 1
            ask 11 0 = 2
            ask -1 0 = BAD
            ask 12 0 = BAD
            fresh 0 0 = 1
            fresh 11 0 = 2
            fresh -1 0 = BAD
            fresh 12 0 = BAD
            start 0 -1 0 = BAD
            start 0 12 0 = BAD
            start 0 0 0 = 3
            start 0 11 0 = 3
            rule -1 = BAD
            rule 12 = BAD
            drop -1 = BAD
            drop 12 = BAD
            drop 11 = 1
            drop 0 = 1
            """);
        Script.run("section 1: an ARGUMENT (-50 .. 50)", """
            text 0 x = 1
            ask 0 -51 = BAD
            ask 0 -50 = -50
            ask 0 50 = 50
            ask 0 51 = BAD
            ask 0 MIN = BAD
            ask 0 MAX = BAD
            fresh 0 -51 = BAD
            fresh 0 -50 = -50
            fresh 0 50 = 50
            fresh 0 51 = BAD
            fresh 0 MIN = BAD
            fresh 0 MAX = BAD
            start 0 0 -51 = BAD
            start 0 0 51 = BAD
            start 0 0 MIN = BAD
            start 0 0 MAX = BAD
            start 0 0 -50 = 3
            task 0 1 = -50
            start 0 0 50 = 3
            task 0 1 = 50
            """);
    }

    private static void keys() {
        Script.run("section 1: a KEY is told as 101 * RULE + ARGUMENT + 50", """
            text 0 x = 1
            text 1 x = 1
            text 10 x = 1
            text 11 x = 1
            ask 0 -50 = -50
            key 1 0 = 0
            ask 0 0 = 0
            key 1 1 = 50
            ask 0 50 = 50
            key 1 2 = 100
            ask 1 -50 = -50
            key 1 3 = 101
            ask 10 50 = 50
            key 1 4 = 1110
            ask 11 -50 = -50
            key 1 5 = 1111
            ask 11 50 = 50
            key 1 6 = 1211
            kept 0 0 = -50
            kept 100 0 = 50
            kept 101 0 = -50
            kept 1110 0 = 50
            kept 1111 0 = -50
            kept 1211 0 = 50
            """);
        Script range = Script.run("section 1: KEYS 0 .. 1211, the first and the last are KEPT", """
            text 0 x = 1
            text 11 x = 1
            ask 0 -50 = -50
            ask 11 50 = 50
            kept 0 0 = -50
            kept 1211 0 = 50
            asked 0 0 = NOT
            asked 1211 0 = NOT
            heirs 0 = 0
            heirs 1211 = 0
            chain 0 = 1
            chain 1211 = 1
            """);
        for (String bad : "-1 1212 MIN MAX".split(" ")) {
            range.say("kept K 0 = BAD\nasked K 0 = BAD\nheirs K = BAD\nchain K = BAD".replace("K", bad));
        }
        Script empty = new Script("section 1: KEYS 0 .. 1211, nothing is KEPT");
        for (String not : "0 1211".split(" ")) {
            empty.say("kept K 0 = NOT\nasked K 0 = NOT\nheirs K = NOT\nchain K = NOT".replace("K", not));
        }
        for (String bad : "-1 1212".split(" ")) {
            empty.say("kept K 0 = BAD\nasked K 0 = BAD\nheirs K = BAD\nchain K = BAD".replace("K", bad));
        }
    }

    private static void feed() {
        Script.run("promise 2: a byte (0 .. 255)", """
            feed MIN = BAD
            feed -1 = BAD
            feed 0 = 1
            feed 255 = 2
            feed 256 = BAD
            feed 376 = BAD            # x and 256
            feed MAX = BAD
            count 3 = 2
            """);
        Script.run("promise 2: a byte that is refused doesn't come to THE TAPE", """
            feed 120 = 1
            feed 256 = BAD
            feed -1 = BAD
            feed 43 = 2
            feed 298 = BAD
            feed 49 = 3
            rule 0 = 3
            ask 0 4 = 5
            """);
        Script full = new Script("promise 2 and section 1: 100 bytes at most, then FULL");
        full.say("tape " + "1-".repeat(49) + "x");
        full.say("count 3 = 99\nfeed 32 = 100\ncount 3 = 100\nfeed 32 = FULL\nfeed 0 = FULL\nfeed 255 = FULL\ncount 3 = 100");
        full.say("rule 0 = -199\ncount 3 = 0\nfeed 55 = 1\nrule 0 = 1\nask 0 0 = 7");
        Script last = new Script("promise 2: the 100th byte counts, what was refused as FULL doesn't");
        last.say("tape " + "1-".repeat(49) + "1");
        last.say("feed 50 = 100\nfeed 51 = FULL\nrule 0 = 99\nfresh 0 0 = -59");
        Script both = new Script("promise 2: BAD is ahead of FULL");
        both.say("tape " + "x".repeat(100));
        both.say("feed -1 = BAD\nfeed 256 = BAD\nfeed MIN = BAD\nfeed MAX = BAD\nfeed 120 = FULL\ncount 3 = 100");
    }

    private static void rule() {
        Script.run("promise 3: THE TAPE is empty then", """
            tape x+1
            count 3 = 3
            rule 0 = 3
            count 3 = 0
            rule 1 = -100
            """);
        Script.run("promise 3: THE TAPE is empty then, by a FAULT, too", """
            tape x+
            rule 0 = -102
            count 3 = 0
            feed 120 = 1
            rule 0 = 1
            tape )x
            rule 0 = -100
            count 3 = 0
            """);
        Script.run("promise 3: BAD (THE TAPE stays)", """
            tape x+2
            rule -1 = BAD
            rule 12 = BAD
            rule MIN = BAD
            rule MAX = BAD
            count 3 = 3
            rule 11 = 3
            ask 11 1 = 3
            """);
        Script.run("promise 3: BAD is ahead of a FAULT", """
            rule 12 = BAD
            tape x+
            rule -1 = BAD
            count 3 = 2
            rule 0 = -102
            """);
        Script.run("promise 3: how many NODES, one at least", """
            text 0 x = 1
            text 0 7 = 1
            text 0 c0 = 1
            text 0 (((((99))))) = 1
            """);
        Script.run("promise 3: how many NODES, 100 at most", "text 0 -" + "x+".repeat(49) + "x = 100\nfresh 0 1 = 48");
        Script.run("promise 3: -100 less the FAULT, 0 at least", "text 0 ) = -100\nrule 0 = -100");
        Script.run("promise 3: -100 less the FAULT, of the last byte", "text 0 " + "x+".repeat(49) + "x+ = -200");
        Script.run("promise 3: -100 less the FAULT, at the last byte", "text 0 " + "x+".repeat(49) + "x) = -199");
    }

    private static void ruleFaultChangesNothing() {
        Script.run("promise 3: by a FAULT nothing else is changed, what is KEPT and THE WAVE stay", """
            text 0 x+c0 = 3
            text 1 f0(x) = 2
            ask 1 3 = 3
            set 0 1 = 2
            ask 1 3 = 4
            text 0 x+ = -102
            count 0 = 2
            count 2 = 2
            wave 0 = 53
            wave 1 = 154
            wave 2 = NOT
            led 3 = 2
            ask 1 3 = 4
            steps = 0
            rule 0 = -100
            ask 0 9 = 10
            """);
        Script.run("promise 3: by a FAULT nothing else is changed, no TASK begins anew", """
            text 0 x+c0 = 3
            start 0 0 3 = 1
            step 0 2 = 2
            text 0 x- = -102
            led 1 = 1
            step 0 9 = 1
            task 0 1 = 3
            """);
        Script.run("promise 3: by a FAULT a RULE without a TEXT gets none", """
            text 0 x+ = -102
            count 2 = 0
            drop 0 = STATE
            ask 0 0 = -10005
            """);
        Script.run("promise 3: how many NODES is told, not how many were THROWN OUT", """
            text 0 x = 1
            ask 0 1 = 1
            ask 0 2 = 2
            text 0 x+1 = 3
            led 3 = 2
            """);
    }

    private static void drop() {
        Script.run("promise 4: BAD", """
            text 0 1 = 1
            drop MIN = BAD
            drop -1 = BAD
            drop 12 = BAD
            drop MAX = BAD
            drop 0 = 0
            """);
        Script.run("promise 4: STATE: it has none", """
            drop 0 = STATE
            drop 11 = STATE
            text 0 1 = 1
            drop 1 = STATE
            drop 0 = 0
            drop 0 = STATE
            text 0 1 = 1
            drop 0 = 0
            """);
        Script.run("promise 4: STATE leaves THE WAVE and what is KEPT", """
            text 0 c0 = 1
            ask 0 1 = 0
            set 0 1 = 1
            ask 0 1 = 1
            drop 5 = STATE
            wave 0 = 51
            count 0 = 1
            """);
        Script.run("promise 4: how many were THROWN OUT, none", """
            text 0 x = 1
            text 1 x = 1
            ask 1 0 = 0
            drop 0 = 0
            count 0 = 1
            count 2 = 1
            """);
        Script.run("promise 4: how many were THROWN OUT, all", """
            text 0 x = 1
            text 1 f0(x) = 2
            ask 1 0 = 0
            ask 0 1 = 1
            drop 0 = 3
            count 0 = 0
            count 1 = 0
            """);
    }

    private static void set() {
        Script.run("promise 5: how many were THROWN OUT, none and all", """
            text 0 c0 = 1
            set 0 1 = 0
            ask 0 0 = 1
            ask 0 1 = 1
            set 1 1 = 0
            set 0 2 = 2
            set 0 3 = 0
            """);
        Script.run("promise 5: 0, and no change, if it is that already: what is KEPT and THE WAVE stay", """
            text 0 c0 = 1
            set 0 7 = 0
            ask 0 0 = 7
            set 0 8 = 1
            ask 0 0 = 8
            ask 0 1 = 8
            set 0 8 = 0
            wave 0 = 50
            wave 1 = NOT
            count 0 = 2
            led 3 = 1
            """);
        Script.run("promise 5: 0, and no change, if it is that already: no TASK begins anew", """
            text 0 c0+x = 3
            set 0 7 = 0
            start 0 0 0 = 1
            step 0 2 = 2
            set 0 7 = 0
            led 1 = 1
            step 0 9 = 1
            task 0 1 = 7
            """);
        Script.run("promise 5: 0 is a NUMBER that it is already at first", """
            text 0 c0 = 1
            ask 0 0 = 0
            set 0 0 = 0
            count 0 = 1
            set 0 -1 = 1
            """);
        Script.run("promise 5: BAD changes neither a NUMBER nor THE WAVE", """
            text 0 c0 = 1
            ask 0 0 = 0
            set 0 1 = 1
            set 0 100 = BAD
            set 0 -100 = BAD
            set 12 5 = BAD
            set -1 5 = BAD
            set 12 100 = BAD
            wave 0 = 50
            cell 0 = 1
            """);
    }

    private static void cell() {
        Script.run("promise 6: a CELL's NUMBER, each its own", """
            set 0 -99 = 0
            set 1 99 = 0
            set 10 -1 = 0
            set 11 1 = 0
            cell 0 = -99
            cell 1 = 99
            cell 2 = 0
            cell 9 = 0
            cell 10 = -1
            cell 11 = 1
            """);
        Script.run("promise 6: BAD", """
            cell MIN = BAD
            cell -1 = BAD
            cell 12 = BAD
            cell MAX = BAD
            """);
    }
}
