/** Promises 8 and 9: day, order; each day was lived by hand. */
public final class DaysTest {
    private static final Check check = new Check();

    public static void main(String[] args) {
        whats();
        waited();
        late();
        lasts();
        early();
        gap();
        hands();
        whichFirst();
        theEnd();
        again();
        firstRule();
        byKind();
        order();
        badOrders();
        check.end();
    }

    private static void whats() {
        BeforeItGoes x = new BeforeItGoes();
        int[] bad = {-1, 5, 9, 10, 20, 30, 40, 50, 51, 60, Integer.MIN_VALUE, Integer.MAX_VALUE};
        for (int what : bad) {
            check.due("P8 no WALLS: day(" + what + ")", x.day(what), -100000);
        }
        x.wall(0, 0, 1);
        x.wall(0, 0, 1);
        for (int what : new int[] {-10, 5, 9, 12, 19, 22, 32, 42, 49, 50, 51}) {
            check.due("P8 two WALLS: day(" + what + ")", x.day(what), -100000);
        }
    }

    private static void waited() {
        // ripe in 20, 2 minutes a yard; on 0 .. 10, 10 .. 16; waited to 30; 30 .. 35; waited to 36; 36 .. 39
        BeforeItGoes x = Check.ruled("ripens 20;takes 2;spoils 5;");
        x.wall(0, 0, 5);
        x.wall(0, 0, 3);
        check.dayDue(x, new int[][] {{0, 0}, {1, 39}, {2, 15}, {3, 0}, {4, 0},
            {10, 0}, {20, 30}, {30, 30}, {40, 0}, {11, 10}, {21, 36}, {31, 36}, {41, 0}});
    }

    private static void late() {
        // on 0 .. 40, ripe in 60; on 40 .. 80, ripe in 100; trowelled 80 .. 100, 10 behind 60 and 10; 100 .. 120
        BeforeItGoes x = Check.ruled("ripens 20;takes 2;spoils off * off - off + number;");
        x.wall(0, 7, 20);
        x.wall(0, 0, 20);
        check.dayDue(x, new int[][] {{0, 97}, {1, 120}, {2, 0}, {3, 1}, {4, 0},
            {10, 0}, {20, 60}, {30, 80}, {40, 10}, {11, 40}, {21, 100}, {31, 100}, {41, 0}});
    }

    private static void lasts() {
        // RIPE in 30, lasts till 40; the other is put on till 40, or till 42
        BeforeItGoes x = Check.ruled("ripens 10;takes 2;spoils 3;");
        x.wall(0, 0, 10);
        x.wall(0, 0, 10);
        check.dayDue(x, new int[][] {{0, 0}, {3, 0}, {30, 40}, {40, 0}, {31, 50}, {41, 0}});
        x.set(7, 1, 11);
        check.dayDue(x, new int[][] {{0, 3}, {3, 1}, {30, 42}, {40, 2}, {31, 52}, {41, 0}});
    }

    private static void early() {
        // on 0 .. 4, ripe in 24; EAGER by 6: in 18, OFF by -6
        BeforeItGoes x = Check.ruled("ripens 20;takes 2;spoils 0 - off * 2;");
        x.wall(0, 0, 2);
        x.set(5, 0, 6);
        check.dayDue(x, new int[][] {{0, 12}, {1, 20}, {2, 14}, {3, 0}, {4, 1}, {20, 24}, {30, 18}, {40, -6}});
        // the second: on 4 .. 8, ripe in 28, so in 22: waited 18 less 8, and 2
        x.wall(0, 0, 2);
        check.dayDue(x, new int[][] {{0, 24}, {1, 24}, {2, 12}, {4, 3}, {31, 22}, {41, -6}});
        // a WALL that is ripe at once is trowelled ahead of the next being put on
        x.set(5, 0, 20);
        check.dayDue(x, new int[][] {{0, 80}, {1, 12}, {2, 0}, {4, 3}, {10, 0}, {30, 4}, {11, 6}, {31, 10}});
    }

    private static void gap() {
        // begun 7 and 7 apart: on 0 .. 2, 7 .. 9, 14 .. 16; ripe in 22, 29, 36
        BeforeItGoes x = Check.ruled("ripens 20;takes 2;spoils 3;");
        for (int i = 0; i < 3; i++) {
            x.wall(0, 0, 1);
        }
        x.set(4, 0, 7);
        check.dayDue(x, new int[][] {{0, 0}, {1, 37}, {2, 28}, {10, 0}, {11, 7}, {12, 14}, {30, 22}, {31, 29}, {32, 36}});
        // a gap no longer than it takes does not matter; one that is longer by 1 does
        x.set(4, 0, 2);
        check.dayDue(x, new int[][] {{11, 2}, {12, 4}});
        x.set(4, 0, 3);
        check.dayDue(x, new int[][] {{11, 3}, {12, 6}});
        // while it is waited for the next, what is ripe is trowelled: 22 .. 23, then on in 60
        x.set(4, 0, 60);
        check.dayDue(x, new int[][] {{1, 143}, {30, 22}, {11, 60}, {31, 82}, {12, 120}, {32, 142}, {2, 134}});
        // of a WALL that may begin and one that is ripe in the same minute the ripe one is first
        x.set(4, 0, 22);
        check.dayDue(x, new int[][] {{30, 22}, {11, 23}});
    }

    private static void hands() {
        // 5 yards by 3 are 15, by two 7; a yard by 1 is 0, so 1
        BeforeItGoes x = Check.ruled("ripens 20;takes 3;spoils 3;");
        x.wall(0, 0, 5);
        x.set(3, 0, 2);
        check.dayDue(x, new int[][] {{20, 27}, {1, 32}});
        BeforeItGoes y = Check.ruled("ripens 20;takes 1;spoils 3;");
        y.wall(0, 0, 1);
        y.set(3, 0, 2);
        check.dayDue(y, new int[][] {{20, 21}, {1, 22}});
    }

    private static void whichFirst() {
        // on 0 .. 5, ripe in 35; BRICK on 5 .. 8, ripe in 35 too: of like ones the one put on first
        BeforeItGoes x = Check.ruled("ripens 30;takes 1;spoils 1;");
        x.wall(0, 0, 5);
        x.wall(1, 1, 3);
        check.dayDue(x, new int[][] {{20, 35}, {21, 35}, {30, 35}, {31, 40}});
        // by 1, 0: PAINTED on 0 .. 3, ripe in 37; on 3 .. 7, ripe in 37
        BeforeItGoes y = Check.ruled("ripens 30;takes 1;spoils 1;");
        y.wall(0, 0, 4);
        y.wall(2, 2, 3);
        Check.fill(y, 0, 0, 1, 0);
        int[][] due = {{20, 37}, {21, 37}, {31, 37}, {30, 40}};
        for (int[] pair : due) {
            check.due("P9 order(0, " + pair[0] + ")", y.order(0, pair[0]), pair[1]);
        }
        // the one RIPE first, though put on last: on 0 .. 1, ripe in 31; HOT on 1 .. 5, ripe in 16 + 4
        BeforeItGoes z = Check.ruled("ripens 30;takes 1;spoils 1;");
        z.wall(0, 0, 1);
        z.wall(3, 0, 1);
        check.dayDue(z, new int[][] {{20, 31}, {21, 20}, {31, 20}, {30, 31}, {1, 32}});
        // both stand in 16, the long one was put on: 1 is RIPE in 20, so first; EAGER by 20
        z.set(5, 0, 20);
        check.dayDue(z, new int[][] {{31, 5}, {41, -15}, {30, 11}, {40, -20}, {4, 3}});
    }

    private static void theEnd() {
        // 800 minutes each: on 0, 800; 0 in 1600; on 1620; 1 in 2420; on 2440; 2 in 3240; on 3260 .. 4060
        BeforeItGoes x = Check.ruled("ripens 240;takes 20;spoils 999;");
        for (int i = 0; i < 6; i++) {
            x.wall(5, 0, 20);
        }
        check.dayDue(x, new int[][] {{0, 2997}, {1, 4060}, {2, 0}, {3, 7}, {4, 0}, {12, 1620}, {14, 3260}, {24, 4300},
            {33, -1}, {34, -1}, {43, 0}, {15, -1}, {25, -1}, {35, -1}, {45, 0}});
        // the fifth of 17 yards: on till 3940; 3 in 3940 .. 3960; then waited to 4000
        BeforeItGoes y = Check.ruled("ripens 240;takes 20;spoils 999;");
        for (int i = 0; i < 5; i++) {
            y.wall(5, 0, i == 4 ? 17 : 20);
        }
        check.dayDue(y, new int[][] {{0, 3996}, {1, 4000}, {2, 40}, {3, 15}, {33, 3940}, {24, 4180}, {34, -1}, {44, 0}});
    }

    /** Nothing of a day stays for the next one. */
    private static void again() {
        // by TEXT 1: 4 on 164 .. 964, ripe in 965; 5 on 964 .. 1764, ripe in 1765; 4 in 1764, 5 in 1784.
        // By TEXT 2 the last three are never TROWELLED
        BeforeItGoes x = Check.ruled("ripens 1;takes 20;spoils 1;");
        Check.learn(x, "ripens 240;takes 20;spoils 999;");
        for (int i = 0; i < 6; i++) {
            x.wall(5, 0, i < 4 ? 1 : 20);
        }
        check.dayDue(x, new int[][] {{3, 53}, {34, 1764}, {44, 789}, {35, 1784}, {45, 9}});
        x.force(2);
        for (int i = 0; i < 4; i++) {
            x.set(7, i, 20);
        }
        check.dayDue(x, new int[][] {{3, 7}, {33, -1}, {43, 0}, {44, 0}, {45, 0}});
    }

    /** TEXT 0: RIPE in 42 by WARM 18; spoils is OFF by OFF by YARDS. */
    private static void firstRule() {
        BeforeItGoes x = new BeforeItGoes();
        x.wall(0, 0, 3);
        x.set(5, 0, 7);
        check.dayDue(x, new int[][] {{20, 48}, {30, 41}, {40, -7}, {0, 147}});
        x.set(7, 0, 20);
        x.set(5, 0, 20);
        check.dayDue(x, new int[][] {{40, -20}, {0, 999}});
    }

    private static void byKind() {
        // HOT takes 3 more, a CEILING twice as long; a GLUED one lasts for 15, HOT 8, BRICK 10 less 2
        BeforeItGoes x = Check.ruled("ripens 20;takes 2;spoils off;");
        x.wall(3, 0, 2);
        x.wall(5, 0, 2);
        check.dayDue(x, new int[][] {{20, 17}, {11, 7}, {21, 35}});
        // 0 on 0 .. 1, ripe in 11 (BRICK of 4: in 2); 1 on 1 .. 21; so 0 in 21: just in time, or 11 behind 10.
        // HOT: on 0 .. 4, ripe in 9, lasts till 17; 1 on 4 .. 24
        for (int[] kind : new int[][] {{0, 0, 0}, {4, 0, 0}, {1, 0, 0}, {1, 4, 11}, {3, 0, 7}}) {
            BeforeItGoes y = Check.ruled("ripens 10;takes 1;spoils off;");
            y.wall(kind[0], kind[1], 1);
            y.wall(0, 0, 20);
            check.due("P8 OFF of KIND " + kind[0] + ", " + kind[1], y.day(40), kind[2]);
        }
        BeforeItGoes z = Check.ruled("ripens 10;takes 1;spoils off;");
        z.wall(4, 0, 1);
        z.wall(5, 0, 13);
        check.dayDue(z, new int[][] {{20, 11}, {30, 27}, {40, 1}, {0, 1}});
    }

    private static void order() {
        // as late(), the other way: 1 on 0 .. 40, ripe in 60; 0 on 40 .. 44, ripe in 64
        BeforeItGoes x = Check.ruled("ripens 20;takes 2;spoils 3;");
        x.wall(0, 0, 2);
        x.wall(0, 0, 20);
        Check.fill(x, 3, 2, 1, 0);
        int[][] due = {{0, 3}, {1, 82}, {2, 16}, {3, 1}, {4, 0}, {10, 40}, {20, 64}, {30, 80}, {40, 6},
            {11, 0}, {21, 60}, {31, 60}, {41, 0}};
        for (int[] pair : due) {
            check.due("P9 order(3, " + pair[0] + ")", x.order(3, pair[0]), pair[1]);
        }
        // PLAIN: 0 on 0 .. 4, ripe in 24; 1 on 4 .. 44, ripe in 64; 0 in 44 .. 46; 1 in 64 .. 84
        check.due("P9 the plain day is another", x.day(1), 84);
        x.wall(0, 0, 1);
        Check.fill(x, 1, 1, 2, 0, 1);
        check.due("P9 three", x.order(1, 12), 0);
        check.due("P9 three", x.order(1, 10), 2);
        check.due("P9 three", x.order(1, 11), 6);
    }

    private static void badOrders() {
        BeforeItGoes x = new BeforeItGoes();
        check.due("P9 missing", x.order(0, 0), -100000);
        x.sheet(0, 0, 0);
        check.due("P9 no WALLS", x.order(0, 0), 0);
        check.due("P9 no WALL 0", x.order(0, 10), -100000);
        x.wall(0, 0, 1);
        x.wall(0, 0, 1);
        check.due("P9 too short", x.order(0, 0), -100000);
        Check.fill(x, 0, 0, 0);
        check.due("P9 too short", x.order(0, 0), -100000);
        Check.fill(x, 0, 0, 0, 1, 0);
        check.due("P9 too long", x.order(0, 0), -100000);
        int[][] bad = {{0, 0}, {1, 1}, {0, 2}, {2, 1}, {-1, 0}, {0, 33}, {32, 1}};
        for (int[] pair : bad) {
            Check.fill(x, 0, 2, pair);
            check.due("P9 by " + pair[0] + ", " + pair[1], x.order(0, 0), -100000);
        }
        Check.fill(x, 0, 0, 1, 0);
        check.due("P9 good", x.order(0, 0), 0);
        int[] whats = {-1, 5, 9, 12, 22, 50};
        for (int what : whats) {
            check.due("P9 order(0, " + what + ")", x.order(0, what), -100000);
        }
        check.due("P9 order(4, 0)", x.order(4, 0), -100000);
        check.due("P9 order(-1, 0)", x.order(-1, 0), -100000);
        // by bytes 256 is 0
        Check.fill(x, 0, 0, 257, 256);
        check.due("P9 as bytes go", x.order(0, 11), 0);
    }
}
