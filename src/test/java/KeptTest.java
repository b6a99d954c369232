/** Promises 10 to 20: what is kept. */
public final class KeptTest {
    public static void main(String[] args) {
        bounds();
        policies();
        kept();
        keys();
        waves();
        would();
        heirsAndChains();
        clear();
        Script.end();
    }

    private static void bounds() {
        Script.run("promise 10", """
            bound 0 = BAD
            bound 301 = BAD
            bound -5 = BAD
            bound 300 = 60
            bound 1 = 300
            bound 60 = 1
            text 0 x = 1
            ask 0 1 = 1
            ask 0 22 = 22
            ask 0 3 = 3
            count 1 = 10
            bound 10 = 60
            count 0 = 3
            bound 9 = 10
            count 0 = 2
            count 1 = 7
            kept 51 0 = NOT
            led 4 = 1
            bound 300 = 9
            count 0 = 2
            bound 2 = 300
            count 0 = 0
            led 4 = 3
            led 3 = 0
            ask 0 5 = 5               # the new one goes at once
            count 0 = 0
            led 4 = 4
            led 5 = 4
            """);
        Script full = new Script("promise 10, 300");
        full.say("text 0 7 = 1\nbound 300 = 60");
        for (int i = -50; i <= 49; i++) {
            full.say("ask 0 " + i + " = 7");
        }
        full.say("""
            count 0 = 100
            count 1 = 300
            ask 0 50 = 7
            count 0 = 100
            kept 0 0 = NOT
            key 0 0 = 1
            key 1 99 = 100
            led 4 = 1
            text 1 99*99+9 = 5
            ask 1 0 = 9810
            count 0 = 99
            count 1 = 300
            """);
    }

    private static void policies() {
        Script.run("promises 11 and 19", """
            policy -1 = BAD
            policy 4 = BAD
            next = NOT
            policy 3 = 0
            policy 0 = 3
            text 0 x*x*x = 5
            text 1 x = 1
            text 2 f1(x)+f1(x+1) = 7
            ask 0 12 = 1728           # KEY 62: TIME 1, COST 5, WEIGHT 6
            ask 1 7 = 7               # KEY 158: COST 1, WEIGHT 3
            ask 2 6 = 13              # KEY 258: WEIGHT 6; KEY 157 WEIGHT 3; KEY 158: ASKS 2
            ask 0 12 = 1728
            kept 62 4 = 2
            kept 158 4 = 2
            next = 258                # TIME 3
            policy 1 = 0
            next = 157
            policy 2 = 1
            next = 157
            policy 3 = 2
            next = 62
            ask 1 6 = 6
            policy 1 = 3
            next = 258
            policy 2 = 1
            next = 157
            count 0 = 4
            bound 17 = 60
            kept 157 0 = NOT
            next = 158
            bound 12 = 17
            next = 62
            kept 258 1 = 8
            """);
        Script.run("promise 11, like ones: the least KEY", """
            text 5 x = 1
            text 3 x = 1
            ask 5 2 = 2
            ask 5 1 = 1
            ask 3 9 = 9
            policy 1 = 0
            next = 362
            policy 2 = 1
            next = 362
            policy 3 = 2
            next = 362
            policy 0 = 3
            next = 557
            bound 8 = 60
            next = 556
            policy 3 = 0
            bound 5 = 8
            kept 362 0 = NOT
            next = 556
            """);
    }

    private static void kept() {
        Script.run("promises 12 and 13", """
            text 0 c0?f1(x)+c2:f2(-x) = 9
            text 1 c1+f2(x)+f2(1) = 7
            text 2 x*3 = 3
            set 0 1 = 0
            kept -1 0 = BAD
            kept 1212 0 = BAD
            kept 0 -1 = BAD
            kept 0 7 = BAD
            kept 0 0 = NOT
            kept 1211 6 = NOT
            asked -1 0 = BAD
            asked 1212 0 = BAD
            asked 0 -1 = BAD
            asked 0 0 = NOT
            ask 0 50 = 153
            kept 100 0 = 153
            kept 100 1 = 19
            kept 100 2 = 6
            kept 100 3 = 1
            kept 100 4 = 1
            kept 100 5 = 1
            kept 100 6 = 28679        # CELLS 0, 1, 2, RULES 0, 1, 2
            kept 100 7 = BAD
            asked 100 0 = 201
            asked 100 1 = NOT
            asked 100 -1 = BAD
            kept 201 1 = 13
            kept 201 2 = 7
            kept 201 5 = 2
            kept 201 6 = 24578
            asked 201 0 = 302
            asked 201 1 = 253
            asked 201 2 = NOT
            kept 253 0 = 3
            kept 253 3 = 4
            kept 253 2 = 3
            set 0 0 = 1
            ask 0 1 = -3
            kept 51 2 = 4             # without -
            kept 51 1 = 8
            kept 51 6 = 20481
            kept 51 5 = 1
            asked 51 0 = 251
            """);
        Script.run("promise 12, a HIT brings what it used", """
            text 0 f1(x)+f1(x)+f1(x)+f1(1) = 11
            text 1 c4+c5 = 3
            ask 1 7 = 0
            ask 0 7 = 0
            kept 57 5 = 2
            asked 57 0 = 158
            asked 57 1 = 152
            kept 57 6 = 12336
            kept 57 2 = 5
            kept 57 1 = 14
            kept 158 4 = 4
            kept 158 1 = 3
            set 5 1 = 3
            """);
        Script.run("promise 12, digits", """
            text 0 x = 1
            text 1 f0(x)*f0(x) = 5
            text 2 f1(x)*4 = 4
            ask 0 9 = 9
            ask 0 10 = 10
            ask 0 -10 = -10
            kept 59 2 = 3
            kept 60 2 = 4
            kept 40 2 = 4
            ask 1 9 = 81
            kept 160 2 = 5
            ask 1 10 = 100
            kept 161 2 = 6
            ask 2 10 = 400
            ask 2 50 = -10003
            ask 1 31 = 961
            ask 1 32 = 1024
            kept 183 2 = 7
            text 3 -9 = 2
            ask 3 0 = -9
            kept 353 2 = 3
            text 3 99 = 1
            ask 3 0 = 99
            kept 353 2 = 4
            text 3 99+1 = 3
            ask 3 0 = 100
            kept 353 2 = 5
            text 3 -99*10-9 = 6
            ask 3 0 = -999
            kept 353 2 = 5
            text 3 99*10+10 = 5
            ask 3 0 = 1000
            kept 353 2 = 6
            text 3 99*99+99+99 = 7
            ask 3 0 = 9999
            kept 353 2 = 6
            text 3 0 = 1
            ask 3 0 = 0
            kept 353 2 = 3
            """);
    }

    private static void keys() {
        Script.run("promise 14", """
            key -1 0 = BAD
            key 2 0 = BAD
            key 0 -1 = BAD
            key 1 -1 = BAD
            key 0 0 = NOT
            text 0 x+c0 = 3
            text 1 f0(3)+x = 4
            ask 0 9 = 9
            ask 1 5 = 8
            ask 0 2 = 2
            key 0 0 = 52
            key 0 1 = 53
            key 0 2 = 59
            key 0 3 = 156
            key 0 4 = NOT
            key 1 0 = 59
            key 1 1 = 53
            key 1 2 = 156
            key 1 3 = 52
            key 1 4 = NOT
            ask 0 9 = 9               # a HIT leaves the order
            key 1 0 = 59
            bound 11 = 60
            key 1 1 = 53
            key 1 2 = 52
            key 1 3 = NOT
            bound 60 = 11
            drop 1 = 0
            text 1 x = 1
            ask 1 1 = 1
            set 0 1 = 3
            ask 0 9 = 10
            key 1 0 = 152
            key 1 1 = 59              # KEPT again: as the latest
            key 0 0 = 59
            key 0 1 = 152
            """);
    }

    private static void waves() {
        Script.run("promise 15", """
            wave -1 = BAD
            wave 0 = NOT
            text 0 x+c0 = 3
            text 1 f0(x)+c1 = 4
            ask 1 5 = 5
            ask 0 2 = 2
            ask 1 1 = 1
            set 1 4 = 2
            wave 0 = 156
            wave 1 = 152
            wave 2 = NOT
            wave -1 = BAD
            clear = 3
            wave 0 = 156
            ask 0 3 = 3
            bound 1 = 60
            wave 1 = 152
            bound 60 = 1
            text 1 + = -100
            wave 1 = 152
            set 1 4 = 0
            wave 1 = 152
            set 9 9 = 0               # a change that throws out nothing
            wave 0 = NOT
            ask 0 3 = 3
            ask 0 1 = 1
            drop 0 = 2
            wave 0 = 53
            wave 1 = 51
            text 7 x = 1
            wave 0 = NOT
            """);
    }

    private static void would() {
        Script.run("promise 16", """
            would -1 = BAD
            would 24 = BAD
            would 0 = 0
            would 23 = 0
            text 0 x+c0 = 3
            text 1 f0(x)+c1 = 4
            text 11 c11 = 1
            ask 1 5 = 5
            ask 0 2 = 2
            ask 11 0 = 0
            would 0 = 3
            would 1 = 1
            would 2 = 0
            would 11 = 1
            would 12 = 3
            would 13 = 1
            would 14 = 0
            would 23 = 1
            count 0 = 4
            led 3 = 0
            wave 0 = NOT
            """);
    }

    private static void heirsAndChains() {
        Script.run("promises 17 and 18", """
            heirs -1 = BAD
            heirs 1212 = BAD
            heirs 0 = NOT
            chain -1 = BAD
            chain 1212 = BAD
            chain 0 = NOT
            text 0 x = 1
            text 1 f0(x)+f0(x+1) = 7
            text 2 f1(x)+f0(x+1)+f1(x+1) = 12
            text 3 f2(x) = 2
            text 4 7 = 1
            bound 300 = 60
            ask 4 0 = 7
            ask 3 1 = 10
            heirs 51 = 3              # 1:1, 2:1, 3:1
            heirs 52 = 4
            heirs 53 = 3
            heirs 152 = 2
            heirs 354 = 0
            heirs 454 = 0
            chain 354 = 4
            chain 253 = 3
            chain 152 = 2
            chain 51 = 1
            chain 454 = 1
            """);
        Script.run("promises 17 and 18, through KEPT ones alone", """
            text 0 c0 = 1
            text 1 f0(x)+c1 = 4
            text 2 f1(x) = 2
            text 3 f2(x)+f0(2) = 5
            ask 3 0 = 0
            chain 353 = 4
            heirs 50 = 3
            policy 1 = 0
            ask 2 0 = 0
            ask 0 0 = 0
            ask 0 2 = 0
            ask 3 0 = 0
            next = 151
            bound 16 = 60
            kept 151 0 = NOT
            heirs 50 = 0
            chain 353 = 2
            chain 252 = 1
            heirs 252 = 1
            heirs 52 = 1
            """);
        Script.run("promise 18, told twice", """
            text 0 c0 = 1
            text 1 f0(x) = 2
            text 2 f1(x) = 2
            ask 2 0 = 0
            ask 2 0 = 0
            ask 0 0 = 0
            chain 252 = 3
            bound 10 = 60
            kept 151 0 = NOT
            chain 252 = 1
            would 0 = 2               # what is gone isn't looked at
            heirs 50 = 0
            """);
        Script.run("promise 18, a long one", """
            text 0 x<1?1:f0(x-1) = 9
            bound 300 = 60
            ask 0 25 = 1
            ask 0 48 = 1
            heirs 50 = 48
            chain 98 = 49
            chain 97 = 48
            heirs 97 = 1
            chain 50 = 1
            """);
    }

    private static void clear() {
        Script.run("promise 20", """
            clear = 0
            text 0 x+c0 = 3
            ask 0 1 = 1
            ask 0 2 = 2
            start 0 0 5 = 1
            clear = 2
            clear = 0
            count 0 = 0
            count 1 = 0
            count 2 = 1
            count 5 = 1
            next = NOT
            key 0 0 = NOT
            key 1 0 = NOT
            kept 51 0 = NOT
            led 3 = 0
            led 4 = 0
            led 5 = 2
            ask 0 1 = 1
            count 0 = 1
            kept 51 4 = 1
            key 1 0 = 51
            """);
    }
}
