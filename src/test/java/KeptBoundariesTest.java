/** Each sentence of sections 2 and 4 on what is KEPT, and of promises 10 to 20, that names a boundary case. */
public final class KeptBoundariesTest {
    public static void main(String[] args) {
        used();
        weights();
        bounds();
        whatGoes();
        whatGoesMakesRoom();
        theNewOne();
        policies();
        likeOnes();
        changes();
        waves();
        kept();
        asked();
        keys();
        would();
        heirs();
        chains();
        next();
        clear();
        Script.end();
    }

    private static void used() {
        Script.run("section 2: USED: CELLS that it read and its RULE", """
            text 0 7 = 1
            ask 0 0 = 7
            kept 50 6 = 4096
            text 11 c11 = 1
            ask 11 0 = 0
            kept 1161 6 = 8390656
            text 0 c0+c11+c0 = 5
            ask 0 0 = 0
            kept 50 6 = 6145
            text 0 c0+c1+c2+c3+c4+c5+c6+c7+c8+c9+c10+c11 = 23
            ask 0 0 = 0
            kept 50 6 = 8191
            """);
        Script.run("section 2: USED: CELLS that it read, not those of what isn't worked out", """
            text 0 x?c0:c1 = 4
            ask 0 1 = 0
            ask 0 0 = 0
            kept 51 6 = 4097
            kept 50 6 = 4098
            set 1 5 = 1
            kept 51 0 = 0
            kept 50 0 = NOT
            """);
        Script.run("section 2: USED: those of all KEYS that it ASKED (also HITS)", """
            text 0 f1(x) = 2
            text 1 f2(x) = 2
            text 2 c7 = 1
            ask 1 0 = 0
            kept 151 6 = 24704
            ask 0 0 = 0
            led 0 = 1
            kept 50 6 = 28800
            set 7 1 = 3
            """);
        Script.run("section 2: USED: those of a KEY that it ASKED and that went by BOUND", """
            text 0 f1(x)+f2(x) = 5
            text 1 c7 = 1
            text 2 x = 1
            policy 2 = 0
            bound 6 = 60
            ask 0 0 = 0
            key 0 0 = 50
            key 0 1 = NOT
            kept 50 5 = 2
            asked 50 0 = 151
            asked 50 1 = 252
            kept 50 6 = 28800
            led 4 = 2
            set 7 1 = 1
            """);
    }

    private static void weights() {
        Script digits = new Script("section 2: WEIGHT: 2 and the digits of its VALUE (without -)");
        String[] texts = {"0", "9", "10", "99", "99+1", "99*10+9", "99*10+10", "99*99+99+99"};
        int[] values = {0, 9, 10, 99, 100, 999, 1000, 9999};
        int[] weights = {3, 3, 4, 4, 5, 5, 6, 6};
        for (int i = 0; i < texts.length; i++) {
            int nodes = 2 * texts[i].replaceAll("\\d+", "d").replaceAll("d", "").length() + 1;
            digits.say("text 0 " + texts[i] + " = " + nodes + "\nask 0 0 = " + values[i] + "\nkept 50 2 = " + weights[i]);
            digits.say("count 1 = " + weights[i]);
            digits.say("text 0 -(" + texts[i] + ") = " + (nodes + 1) + "\nask 0 0 = " + -values[i]);
            digits.say("kept 50 2 = " + weights[i]);
        }
        Script.run("section 2: WEIGHT: and as many as it ASKED", """
            text 0 x = 1
            text 1 f0(x) = 2
            text 2 f0(x)+f0(1) = 5
            text 3 f0(x)+f0(x) = 5
            ask 1 5 = 5
            kept 156 2 = 4
            ask 2 5 = 6
            kept 257 2 = 5
            ask 3 4 = 8
            kept 357 2 = 4
            kept 55 2 = 3
            """);
    }

    private static void bounds() {
        Script.run("promise 10 and section 2: BOUND (1 .. 300; 60 at first), what it was", """
            bound MIN = BAD
            bound -1 = BAD
            bound 0 = BAD
            bound 301 = BAD
            bound MAX = BAD
            bound 1 = 60
            bound 0 = BAD
            bound 300 = 1
            bound 301 = BAD
            bound 60 = 300
            bound 60 = 60
            bound 61 = 60
            """);
        Script.run("section 2: BOUND is 60 at first: WEIGHTS of 60 stay, with 61 one goes", sixty() + """
            count 0 = 15
            count 1 = 60
            led 4 = 0
            ask 0 1 = 1
            count 0 = 15
            count 1 = 59
            led 4 = 1
            kept 60 0 = NOT
            """);
        Script.run("section 2: as long as all WEIGHTS together are above BOUND: at it all stay", """
            text 0 x = 1
            ask 0 1 = 1
            ask 0 2 = 2
            ask 0 3 = 3
            bound 9 = 60
            count 0 = 3
            led 4 = 0
            bound 8 = 9
            count 0 = 2
            led 4 = 1
            bound 6 = 8
            count 0 = 2
            bound 5 = 6
            count 0 = 1
            bound 3 = 5
            count 0 = 1
            bound 2 = 3
            count 0 = 0
            led 4 = 3
            """);
        Script.run("section 2: BOUND becomes less: as many go as it takes", """
            text 0 x = 1
            ask 0 1 = 1
            ask 0 2 = 2
            ask 0 3 = 3
            ask 0 4 = 4
            bound 4 = 60
            key 0 0 = 54
            key 0 1 = NOT
            led 4 = 3
            led 3 = 0
            """);
        Script.run("section 2: BOUND becomes less, also to 1: all go", """
            text 0 x = 1
            ask 0 1 = 1
            ask 0 2 = 2
            bound 1 = 60
            count 0 = 0
            count 1 = 0
            next = NOT
            led 4 = 2
            """);
        Script.run("section 2: BOUND becomes more: nothing goes, nothing comes back", """
            text 0 x = 1
            ask 0 1 = 1
            ask 0 2 = 2
            bound 3 = 60
            count 0 = 1
            bound 300 = 3
            count 0 = 1
            led 4 = 1
            """);
        Script.run("promise 10: BAD leaves BOUND and what is KEPT", """
            text 0 x = 1
            ask 0 1 = 1
            bound 0 = BAD
            bound 301 = BAD
            count 0 = 1
            bound 60 = 60
            """);
    }

    /** 15 KEYS of rule 0, of WEIGHT 4 each: 60 together. */
    private static String sixty() {
        StringBuilder lines = new StringBuilder("text 0 x = 1\n");
        for (int i = 10; i < 25; i++) {
            lines.append("ask 0 ").append(i).append(" = ").append(i).append('\n');
        }
        return lines.toString();
    }

    private static void whatGoes() {
        Script full = new Script("section 2: BOUND at most 300: 100 KEYS of the least WEIGHT");
        full.say("bound 300 = 60\ntext 0 0 = 1");
        for (int i = -50; i < 50; i++) {
            full.say("ask 0 " + i + " = 0");
        }
        full.say("""
            count 0 = 100
            count 1 = 300
            led 4 = 0
            key 0 99 = 99
            key 0 100 = NOT
            key 1 99 = 99
            key 1 100 = NOT
            would 12 = 100
            would 13 = 0
            """);
        full.say("ask 0 50 = 0\ncount 0 = 100\ncount 1 = 300\nled 4 = 1\nkept 0 0 = NOT\nkey 0 0 = 1\nkey 1 99 = 100");
        full.say("clear = 100\ncount 0 = 0\ncount 1 = 0");
        Script wave = new Script("promise 15: THE WAVE of 100 KEYS");
        wave.say("bound 300 = 60\ntext 0 0 = 1");
        for (int i = 50; i > -50; i--) {
            wave.say("ask 0 " + i + " = 0");
        }
        wave.say("drop 0 = 100\nwave 0 = 100\nwave 99 = 1\nwave 100 = NOT\nled 3 = 100\ncount 0 = 0\ncount 1 = 0");
        Script.run("section 2: when a KEY is KEPT several go, if it takes several", """
            text 0 x = 1
            text 1 99*99 = 3
            ask 0 1 = 1
            ask 0 2 = 2
            ask 0 3 = 3
            bound 9 = 60
            ask 1 0 = 9801
            key 0 0 = 53
            key 0 1 = 151
            key 0 2 = NOT
            count 1 = 9
            led 4 = 2
            """);
    }

    private static void whatGoesMakesRoom() {
        StringBuilder lines = new StringBuilder("text 0 x = 1\nbound 9 = 60\n");
        for (int i = 0; i < 10; i++) {
            lines.append("ask 0 %d = %d\n".formatted(i, i));
            int first = Math.max(0, i - 2);
            for (int k = first; k <= i; k++) {
                lines.append("key 1 %d = %d\n".formatted(k - first, 50 + k));
                lines.append("kept %d 0 = %d\nkept %d 3 = %d\n".formatted(50 + k, k, 50 + k, k + 1));
            }
        }
        Script.run("section 2: what goes makes room for the next one, the others stay as they are", lines + "led 4 = 7");
    }

    private static void theNewOne() {
        Script.run("section 2: (the new one, too): it alone is above BOUND", """
            text 0 99 = 1
            bound 3 = 60
            ask 0 0 = 99
            count 0 = 0
            led 4 = 1
            led 5 = 1
            kept 50 0 = NOT
            ask 0 0 = 99
            steps = 1
            led 0 = 0
            led 5 = 2
            bound 4 = 3
            ask 0 0 = 99
            count 0 = 1
            """);
        Script.run("section 2: (the new one, too): it is WORTH least, the others stay", """
            text 0 x = 1
            text 1 99 = 1
            policy 3 = 0
            bound 9 = 60
            ask 0 1 = 1
            ask 0 2 = 2
            ask 1 0 = 99              # WEIGHTS of 10: the heaviest goes
            count 0 = 2
            kept 151 0 = NOT
            led 4 = 1
            wave 0 = NOT
            led 3 = 0
            """);
        Script.run("section 2: (the new one, too): the call has its VALUE all the same", """
            text 0 f1(x)+f1(x) = 5
            text 1 99+x = 3
            bound 3 = 60
            ask 0 0 = 198
            steps = 11
            led 5 = 3
            led 4 = 3
            led 0 = 0
            count 0 = 0
            """);
    }

    private static void policies() {
        Script.run("promise 11 and section 2: POLICY (0 .. 3; 0 at first), what it was", """
            policy MIN = BAD
            policy -1 = BAD
            policy 4 = BAD
            policy MAX = BAD
            policy 3 = 0
            policy 4 = BAD
            policy 0 = 3
            policy -1 = BAD
            policy 1 = 0
            policy 2 = 1
            policy 2 = 2
            """);
        // KEY 50: TIME 2, ASKS 2, COST 3, WEIGHT 4; KEY 151: 3, 1, 5, 3; KEY 252: 6, 3, 1, 4.
        String three = """
            text 0 10+10 = 3
            text 1 5-3+1 = 5
            text 2 99 = 1
            ask 0 0 = 20
            ask 0 0 = 20
            ask 1 0 = 3
            ask 2 0 = 99
            ask 2 0 = 99
            ask 2 0 = 99
            """;
        Script.run("section 2: WORTH by POLICY 0: TIME", three + """
            next = 50
            bound 10 = 60
            kept 50 0 = NOT
            next = 151
            bound 6 = 10
            kept 151 0 = NOT
            next = 252
            """);
        Script.run("section 2: WORTH by POLICY 1: ASKS", three + """
            policy 1 = 0
            next = 151
            bound 10 = 60
            kept 151 0 = NOT
            next = 50
            """);
        Script.run("section 2: WORTH by POLICY 2: COST", three + """
            policy 2 = 0
            next = 252
            bound 10 = 60
            kept 252 0 = NOT
            next = 50
            """);
        Script.run("section 2: WORTH by POLICY 3: less WEIGHT (the heaviest goes)", three + """
            policy 3 = 0
            next = 50
            bound 10 = 60
            kept 50 0 = NOT
            next = 252
            bound 6 = 10
            kept 252 0 = NOT
            next = 151
            """);
        Script.run("promise 11: POLICY becomes another one: nothing goes by that", three + """
            bound 11 = 60
            policy 3 = 0
            count 0 = 3
            policy 4 = BAD
            next = 50
            count 1 = 11
            led 4 = 0
            """);
    }

    private static void likeOnes() {
        String like = """
            text 1 7 = 1
            text 0 8 = 1
            ask 1 -50 = 7
            ask 0 50 = 8
            ask 1 -49 = 7
            ask 0 49 = 8
            """;
        for (int policy = 1; policy < 4; policy++) {
            Script.run("section 2: of like ones the least KEY, by POLICY " + policy, like + "policy " + policy + " = 0\n" + """
                next = 99
                bound 11 = 60
                kept 99 0 = NOT
                next = 100
                bound 8 = 11
                kept 100 0 = NOT
                next = 101
                bound 5 = 8
                kept 101 0 = NOT
                next = 102
                """);
        }
        Script.run("section 2: of like ones the least KEY, also if it is the new one", """
            text 1 7 = 1
            text 0 8 = 1
            policy 1 = 0
            bound 5 = 60
            ask 1 0 = 7
            ask 0 0 = 8
            key 0 0 = 151
            key 0 1 = NOT
            ask 1 1 = 7
            key 0 0 = 152
            key 0 1 = NOT
            """);
    }

    private static void changes() {
        Script.run("section 2: CHANGED: a CELL, its NUMBER becomes another one", """
            text 0 c0 = 1
            ask 0 0 = 0
            set 0 0 = 0
            count 0 = 1
            set 0 1 = 1
            count 0 = 0
            ask 0 0 = 1
            set 1 1 = 0
            count 0 = 1
            """);
        Script.run("section 2: CHANGED: a RULE, a TEXT comes, the same one, too", """
            text 0 x = 1
            ask 0 0 = 0
            text 0 x = 1
            count 0 = 0
            wave 0 = 50
            led 3 = 1
            """);
        Script.run("section 2: CHANGED: a RULE, a TEXT goes", """
            text 0 x = 1
            ask 0 0 = 0
            drop 0 = 1
            count 0 = 0
            wave 0 = 50
            """);
        Script.run("section 2: CHANGED: a TEXT of another RULE throws out nothing", """
            text 0 x = 1
            ask 0 0 = 0
            text 1 x = 1
            count 0 = 1
            drop 1 = 0
            count 0 = 1
            text 11 x = 1
            count 0 = 1
            """);
        Script.run("section 2: THROWN OUT in the order in which they were KEPT", """
            text 0 c0 = 1
            text 1 f0(x) = 2
            text 2 x = 1
            ask 1 5 = 0
            ask 2 0 = 0
            ask 0 9 = 0
            ask 1 -5 = 0
            ask 0 5 = 0
            set 0 1 = 5
            wave 0 = 55
            wave 1 = 156
            wave 2 = 59
            wave 3 = 45
            wave 4 = 146
            wave 5 = NOT
            key 0 0 = 252
            key 0 1 = NOT
            """);
    }

    private static void waves() {
        Script.run("promise 15: BAD, NOT", """
            wave MIN = BAD
            wave -1 = BAD
            wave 0 = NOT
            wave MAX = NOT
            text 0 c0 = 1
            ask 0 0 = 0
            set 0 1 = 1
            wave -1 = BAD
            wave 0 = 50
            wave 1 = NOT
            wave MAX = NOT
            """);
        String waved = "text 0 c0 = 1\nask 0 0 = 0\nset 0 1 = 1\nask 0 0 = 1\nask 0 1 = 1\n";
        Script.run("promise 15: clear() leaves it", waved + "clear = 2\nwave 0 = 50\nwave 1 = NOT");
        Script.run("promise 15: BOUND leaves it", waved + "bound 1 = 60\nled 4 = 2\nwave 0 = 50\nwave 1 = NOT");
        Script.run("promise 15: KEYS that go by BOUND when one is KEPT leave it",
            waved + "bound 6 = 60\nask 0 2 = 1\nled 4 = 1\nwave 0 = 50\nwave 1 = NOT");
        Script.run("promise 15: no change leaves it", waved + """
            set 0 1 = 0
            set 0 100 = BAD
            drop 5 = STATE
            drop 12 = BAD
            text 0 c = -101
            rule 12 = BAD
            wave 0 = 50
            wave 1 = NOT
            """);
        Script.run("promise 15: the latest change, one that throws out nothing, too: a CELL", waved + "set 5 1 = 0\nwave 0 = NOT");
        Script.run("promise 15: the latest change, one that throws out nothing, too: a TEXT comes",
            waved + "text 5 x = 1\nwave 0 = NOT");
        Script.run("promise 15: the latest change, one that throws out nothing, too: a TEXT goes",
            waved + "text 5 x = 1\nset 0 2 = 2\nwave 1 = 51\ndrop 5 = 0\nwave 0 = NOT");
    }

    private static void kept() {
        Script bad = Script.run("promise 12: BAD; NOT: it isn't KEPT", """
            text 0 x = 1
            ask 0 0 = 0
            kept 50 -1 = BAD
            kept 50 7 = BAD
            kept 50 MIN = BAD
            kept 50 MAX = BAD
            kept 51 -1 = BAD          # ahead of NOT
            kept 51 7 = BAD
            kept -1 7 = BAD
            kept 50 0 = 0
            kept 50 6 = 4096
            """);
        for (int what = 0; what < 7; what++) {
            bad.say("kept 51 W = NOT\nkept 0 W = NOT\nkept 1211 W = NOT\nkept -1 W = BAD\nkept 1212 W = BAD"
                .replace("W", "" + what));
        }
        Script.run("promise 12: NOT: it isn't KEPT any more", """
            text 0 c0 = 1
            ask 0 0 = 0
            set 0 1 = 1
            kept 50 0 = NOT
            ask 0 0 = 1
            clear = 1
            kept 50 0 = NOT
            ask 0 0 = 1
            bound 1 = 60
            kept 50 0 = NOT
            ask 0 0 = 1
            kept 50 0 = NOT
            """);
        Script.run("promise 12: what is told leaves it: no TIME, no ASKS", """
            text 0 x = 1
            ask 0 0 = 0
            kept 50 0 = 0
            kept 50 3 = 1
            kept 50 4 = 1
            kept 50 4 = 1
            count 4 = 1
            led 0 = 0
            """);
    }

    private static void asked() {
        Script.run("promise 13: BAD: no such KEY, i below 0; NOT: it isn't KEPT, there are not as many", """
            text 0 x = 1
            text 1 f0(x)+f0(3) = 5
            ask 1 0 = 3
            asked 151 MIN = BAD
            asked 151 -1 = BAD
            asked 151 0 = 50
            asked 151 1 = 53
            asked 151 2 = NOT
            asked 151 MAX = NOT
            asked 50 0 = NOT
            asked 50 -1 = BAD
            asked 0 -1 = BAD
            asked 0 0 = NOT
            asked 1211 0 = NOT
            asked -1 0 = BAD
            asked 1212 0 = BAD
            asked MIN 0 = BAD
            asked MAX 0 = BAD
            asked -1 -1 = BAD
            """);
        Script.run("promise 13: also a KEY that isn't KEPT any more is one that it ASKED", """
            text 0 x = 1
            text 1 f0(x) = 2
            ask 1 0 = 0
            ask 1 0 = 0
            bound 6 = 60
            kept 50 0 = NOT
            asked 151 0 = 50
            kept 151 5 = 1
            """);
    }

    private static void keys() {
        Script.run("promise 14: BAD: way, i below 0; NOT: there are not as many", """
            key 0 0 = NOT
            key 1 0 = NOT
            key -1 0 = BAD
            key 2 0 = BAD
            key 0 -1 = BAD
            key 1 -1 = BAD
            text 0 x = 1
            ask 0 1 = 1
            ask 0 0 = 0
            key 0 0 = 50
            key 0 1 = 51
            key 0 2 = NOT
            key 0 MAX = NOT
            key 1 0 = 51
            key 1 1 = 50
            key 1 2 = NOT
            key 1 MAX = NOT
            key -1 0 = BAD
            key 2 0 = BAD
            key MIN 0 = BAD
            key MAX 0 = BAD
            key 0 -1 = BAD
            key 1 -1 = BAD
            key 0 MIN = BAD
            key 1 MIN = BAD
            key 2 -1 = BAD
            key 2 9 = BAD             # ahead of NOT
            """);
        Script.run("promise 14: by their numbers, from KEY 0 to KEY 1211", """
            text 0 x = 1
            text 11 x = 1
            text 1 x = 1
            ask 11 50 = 50
            ask 1 -50 = -50
            ask 0 50 = 50
            ask 0 -50 = -50
            key 0 0 = 0
            key 0 1 = 100
            key 0 2 = 101
            key 0 3 = 1211
            key 0 4 = NOT
            key 1 0 = 1211
            key 1 1 = 101
            key 1 2 = 100
            key 1 3 = 0
            """);
    }

    private static void would() {
        Script.run("promise 16 and section 4: a CELL (0 .. 11), a RULE (12 .. 23); BAD", """
            would MIN = BAD
            would -1 = BAD
            would 0 = 0
            would 23 = 0
            would 24 = BAD
            would MAX = BAD
            text 0 c0 = 1
            text 11 c11+f0(1) = 4
            ask 11 0 = 0
            would 0 = 2
            would 11 = 1
            would 12 = 2
            would 23 = 1
            would 1 = 0
            would 10 = 0
            would 13 = 0
            would 22 = 0
            would -1 = BAD
            would 24 = BAD
            """);
        Script.run("section 4: WOULD throws out nothing, and is what a change then does", """
            text 0 c0 = 1
            text 1 f0(x)+c1 = 4
            ask 1 0 = 0
            ask 0 7 = 0
            would 0 = 3
            would 1 = 1
            would 12 = 3
            would 13 = 1
            count 0 = 3
            wave 0 = NOT
            set 1 5 = 1
            would 13 = 0
            would 0 = 2
            set 0 5 = 2
            would 0 = 0
            """);
    }

    private static void heirs() {
        Script.run("promise 17: BAD; NOT: it isn't KEPT", """
            heirs MIN = BAD
            heirs -1 = BAD
            heirs 0 = NOT
            heirs 1211 = NOT
            heirs 1212 = BAD
            heirs MAX = BAD
            text 0 x = 1
            ask 0 0 = 0
            heirs 50 = 0
            heirs 51 = NOT
            """);
        Script.run("section 4: HEIRS: how many others ASKED it, or ASKED one that did, .. , each once", """
            text 0 x = 1
            text 1 f0(1) = 2
            text 2 f1(1)+f0(1) = 5
            text 3 f2(1)+f1(1)+f0(1) = 8
            text 4 x = 1
            ask 4 0 = 0
            ask 3 0 = 4
            heirs 51 = 3
            heirs 152 = 2
            heirs 253 = 1
            heirs 353 = 0
            heirs 454 = 0
            """);
        Script.run("section 4: HEIRS: others that are KEPT", """
            text 0 x = 1
            text 1 f0(1) = 2
            text 2 f1(1) = 2
            ask 2 0 = 1
            heirs 51 = 2
            drop 2 = 1
            heirs 51 = 1
            drop 1 = 1
            heirs 51 = 0
            """);
    }

    private static void chains() {
        Script.run("promise 18: BAD; NOT: it isn't KEPT", """
            chain MIN = BAD
            chain -1 = BAD
            chain 0 = NOT
            chain 1211 = NOT
            chain 1212 = BAD
            chain MAX = BAD
            text 0 x = 1
            ask 0 0 = 0
            chain 50 = 1
            chain 51 = NOT
            """);
        Script.run("section 4: CHAIN: the most KEYS in a row", """
            text 0 x = 1
            text 1 f0(1) = 2
            text 2 f0(1)+f1(1) = 5
            text 3 f0(1)+f2(1)+f1(1) = 8
            ask 3 0 = 4
            chain 51 = 1
            chain 152 = 2
            chain 253 = 3
            chain 353 = 4
            """);
        Script.run("section 4: CHAIN and HEIRS, whatever the order in which they were KEPT", """
            text 0 x = 1
            text 1 f0(x) = 2
            text 2 f1(x) = 2
            ask 2 1 = 1
            ask 1 1 = 1
            ask 2 1 = 1
            bound 10 = 60
            kept 51 0 = NOT
            chain 253 = 2
            heirs 152 = 1
            bound 60 = 10
            ask 0 1 = 1
            ask 2 1 = 1
            ask 0 1 = 1
            bound 10 = 60
            kept 152 0 = NOT
            bound 60 = 10
            ask 1 1 = 1
            key 1 0 = 253
            key 1 1 = 51
            key 1 2 = 152
            chain 253 = 3
            chain 152 = 2
            chain 51 = 1
            heirs 51 = 2
            heirs 152 = 1
            heirs 253 = 0
            """);
        Script.run("section 4: CHAIN: each KEPT: what is gone breaks the row", """
            text 0 x = 1
            text 1 f0(1)*20 = 4
            text 2 f1(1) = 2
            policy 3 = 0
            ask 2 0 = 20
            chain 252 = 3
            next = 152
            bound 12 = 60
            kept 152 0 = NOT
            chain 252 = 1
            heirs 51 = 0
            """);
        Script deep = new Script("section 4: CHAIN and HEIRS of as many as can be KEPT in a row");
        deep.say("bound 300 = 60\ntext 0 x?f0(x-1):0 = 7\nask 0 -1 = -10004");
        for (int i = 0; i <= 50; i += 25) {
            deep.say("ask 0 " + i + " = 0");
        }
        deep.say("chain 50 = 1\nchain 100 = 51\nheirs 50 = 50\nheirs 100 = 0\nchain 99 = 50\nheirs 99 = 1\nheirs 51 = 49");
    }

    private static void next() {
        Script.run("promise 19: NOT: nothing is KEPT", """
            next = NOT
            text 0 x = 1
            ask 0 0 = 0
            next = 50
            clear = 1
            next = NOT
            ask 0 0 = 0
            drop 0 = 1
            next = NOT
            """);
        Script.run("section 4: NEXT: which would go, if one had to: it stays", """
            text 0 x = 1
            ask 0 1 = 1
            ask 0 0 = 0
            next = 51
            next = 51
            count 0 = 2
            ask 0 1 = 1
            next = 50
            """);
    }

    private static void clear() {
        Script.run("promise 20: all that is KEPT goes: how many did, none", """
            clear = 0
            text 0 x = 1
            clear = 0
            ask 0 0 = 0
            clear = 1
            clear = 0
            """);
        Script.run("promise 20: it is neither THROWN OUT nor gone by BOUND; all else stays", """
            text 0 c0+x = 3
            set 0 5 = 0
            ask 0 0 = 5
            ask 0 0 = 5
            clear = 1
            led 0 = 1
            led 3 = 0
            led 4 = 0
            led 5 = 1
            count 2 = 1
            count 4 = 2
            cell 0 = 5
            steps = 0
            policy 0 = 0
            bound 60 = 60
            ask 0 0 = 5
            steps = 3
            kept 50 4 = 1
            """);
        Script.run("promise 20: TASKS go on, with the VALUES that they have", """
            text 0 f1(x)+x = 4
            text 1 x+c0 = 3
            start 0 0 3 = 1
            step 0 5 = 5
            count 0 = 1
            clear = 1
            step 0 9 = 2
            task 0 1 = 6
            set 0 1 = 1
            """);
    }
}
