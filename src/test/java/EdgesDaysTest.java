/** Promises 8 and 9: a test for each sentence of the document that names an edge; the days were lived by hand. */
public final class EdgesDaysTest {
    private static final int FAR = Integer.MAX_VALUE, DEEP = Integer.MIN_VALUE, NO_DAY = -100000;
    private static final Check check = new Check();

    public static void main(String[] args) {
        noWalls();
        whats();
        lastMinuteToTrowel();
        lastMinuteToBegin();
        neverBegun();
        everyEager();
        offByOne();
        offByOneGlued();
        sixBits();
        everyGap();
        aheadByTheOrder();
        handsAreCut();
        ofLikeOnes();
        waitedToTheEnd();
        sheetsThatAreNone();
        eachOnce();
        tooManyTooFew();
        likewise();
        check.end();
    }

    /** "as long as any is not TROWELLED": none is, so the day is over as it begins. */
    private static void noWalls() {
        BeforeItGoes x = new BeforeItGoes();
        x.set(4, 0, 60);
        x.sheet(2, 1, 0);
        for (int what = 0; what <= 4; what++) {
            check.due("P8 day(" + what + ")", x.day(what), 0);
            check.due("P9 order(2, " + what + ")", x.order(2, what), 0);
        }
    }

    /** Promise 8: "-100000: what, no such WALL"; promise 9: "likewise". */
    private static void whats() {
        for (int walls = 0; walls <= 6; walls++) {
            BeforeItGoes x = new BeforeItGoes();
            x.sheet(0, 0, walls);
            for (int i = 0; i < walls; i++) {
                x.wall(0, 0, 1);
                x.cell(0, i, i);
            }
            for (int what = -12; what <= 62; what++) {
                int of = what % 10;
                boolean is = what >= 0 && what <= 4 || what >= 10 && what < 50 && of < walls;
                check.due("P8 of " + walls + ": day(" + what + ")", x.day(what) != NO_DAY ? 1 : 0, is ? 1 : 0);
                check.due("P9 of " + walls + ": order(0, " + what + ")", x.order(0, what) != NO_DAY ? 1 : 0, is ? 1 : 0);
            }
            for (int what : new int[] {100, 110, 1000, FAR, DEEP, DEEP + 10}) {
                check.due("P8 of " + walls + ": day(" + what + ")", x.day(what), NO_DAY);
                check.due("P9 of " + walls + ": order(0, " + what + ")", x.order(0, what), NO_DAY);
            }
        }
    }

    /**
     * "t is below 4000": 0 on 0 .. 760, 1 on .. 1560, 0 .. 1579, 2 on .. 2379, 1 .. 2399, 3 on .. 3199,
     * 2 .. 3219, 4 on .. 3779, 3 .. 3799: so 4 is RIPE in 3999, or one minute later.
     */
    private static void lastMinuteToTrowel() {
        BeforeItGoes x = Check.ruled("ripens 220 + number;takes 20;spoils 7;");
        for (int i = 0; i < 5; i++) {
            x.wall(5, 0, i == 0 ? 19 : i == 4 ? 14 : 20);
        }
        check.dayDue(x, new int[][] {{33, 3779}, {24, 3999}, {34, 3999}, {44, 0}, {1, 4013}, {2, 200}, {0, 28}});
        x.set(6, 4, 1);
        check.dayDue(x, new int[][] {{33, 3779}, {24, 4000}, {34, -1}, {44, 0}, {1, 4000}, {2, 201}, {0, 28}});
        x.set(5, 0, 1);
        check.dayDue(x, new int[][] {{34, 3999}, {44, -1}, {4, 16}, {1, 4013}, {2, 200}, {0, 35}});
    }

    /** As above; 4 on .. 3979, 3 .. 3999: then 5 is begun. Or 0 of 20 YARDS and 4 on .. 3980, 3 .. 4000: it is not. */
    private static void lastMinuteToBegin() {
        BeforeItGoes x = Check.ruled("ripens 240;takes 20;spoils 7;");
        for (int yards : new int[] {19, 20, 20, 20, 19, 1}) {
            x.wall(5, 0, yards);
        }
        check.dayDue(x, new int[][] {{33, 3979}, {15, 3999}, {25, 4279}, {35, -1}, {45, 0}, {34, -1}, {1, 4039}, {2, 0}});
        x.set(7, 0, 20);
        x.set(7, 4, 18);
        check.dayDue(x, new int[][] {{33, 3980}, {15, -1}, {25, -1}, {35, -1}, {45, 0}, {34, -1}, {1, 4000}, {2, 0}});
    }

    /** "(NONE: never)", "(0: never)": by an order, too. */
    private static void neverBegun() {
        BeforeItGoes x = Check.ruled("ripens 240;takes 20;spoils 999;");
        for (int i = 0; i < 6; i++) {
            x.wall(5, 0, 20);
        }
        check.dayDue(x, new int[][] {{14, 3260}, {24, 4300}, {34, -1}, {44, 0}, {15, -1}, {25, -1}, {35, -1}, {45, 0}, {3, 7}});
        Check.fill(x, 0, 0, 5, 4, 3, 2, 1, 0);
        int[][] due = {{11, 3260}, {21, 4300}, {31, -1}, {41, 0}, {10, -1}, {20, -1}, {30, -1}, {40, 0}, {3, 56}, {1, 4060}};
        for (int[] pair : due) {
            check.due("P9 order(0, " + pair[0] + ")", x.order(0, pair[0]), pair[1]);
        }
    }

    /** "with t no less than RIPE less EAGER", "by t less RIPE, if that is below 0": on 0 .. 12, RIPE in 27. */
    private static void everyEager() {
        BeforeItGoes x = Check.ruled("ripens 15;takes 3;spoils 0 - off;");
        x.wall(0, 0, 4);
        for (int eager = 0; eager <= 20; eager++) {
            x.set(5, 0, eager);
            int in = eager <= 15 ? 27 - eager : 12;
            check.dayDue(x, new int[][] {{20, 27}, {30, in}, {40, in - 27}, {0, 27 - in}, {1, in + 4}, {2, in - 12},
                {3, 0}, {4, eager == 0 ? 0 : 1}});
        }
    }

    /** "by t less (RIPE and LASTS), if that is above 0": 0 is trowelled once 1 is put on, a minute a yard. */
    private static void offByOne() {
        // KIND, NUMBER, when it is put on, RIPE, the last minute that is not too late
        int[][] kinds = {{0, 9, 1, 2, 12}, {1, 9, 1, 2, 8}, {2, 0, 1, 2, 12}, {3, 9, 4, 5, 9}, {3, 0, 4, 5, 13},
            {4, 0, 1, 2, 17}, {5, 0, 2, 3, 13}, {1, 1, 1, 2, 12}, {1, 2, 1, 2, 11}};
        for (int[] kind : kinds) {
            BeforeItGoes x = Check.ruled("ripens 1;takes 1;spoils off;");
            x.wall(kind[0], kind[1], 1);
            x.wall(0, 0, 1);
            for (int yards = 1; yards <= 20; yards++) {
                x.set(7, 1, yards);
                int in = kind[2] + yards, off = Math.max(0, in - kind[4]);
                String of = "P8 KIND " + kind[0] + ", NUMBER " + kind[1] + ", ahead of " + yards + ": ";
                check.due(of + "RIPE", x.day(20), kind[3]);
                check.due(of + "TROWELLED", x.day(30), in);
                check.due(of + "OFF", x.day(40), off);
                check.due(of + "BAD", x.day(0), off);
                check.due(of + "LATE", x.day(3), off > 0 ? 1 : 0);
            }
        }
    }

    /** A WET one that lasts 15: on 0 .. 1, RIPE in 11 or 12; 1 on 1 .. 27. */
    private static void offByOneGlued() {
        BeforeItGoes x = Check.ruled("ripens 10 + number;takes 1;spoils off;");
        x.wall(4, 0, 1);
        x.wall(5, 0, 13);
        x.set(8, 0, 1);
        check.dayDue(x, new int[][] {{20, 11}, {30, 27}, {40, 1}, {3, 1}});
        x.set(6, 0, 1);
        check.dayDue(x, new int[][] {{20, 12}, {30, 27}, {40, 0}, {3, 0}});
    }

    /** "LATE, EARLY: WALLS (bits)": the least and the greatest bit. */
    private static void sixBits() {
        BeforeItGoes x = Check.ruled("ripens 60;takes 1;spoils 1;");
        for (int i = 0; i < 6; i++) {
            x.wall(0, 0, 1);
        }
        x.set(5, 0, 1);
        check.dayDue(x, new int[][] {{3, 0}, {4, 63}, {0, 6}});
        // 5 first on 0 .. 1, RIPE in 2, till 12; 0 on 1 .. 21, all others ripe as they should be
        BeforeItGoes y = Check.ruled("ripens 1;takes 1;spoils 1;");
        for (int i = 0; i < 6; i++) {
            y.wall(0, 0, i == 0 ? 20 : 1);
        }
        Check.fill(y, 3, 2, 5, 0, 1, 2, 3, 4);
        check.due("P9 LATE is 5 alone", y.order(3, 3), 32);
        check.due("P9 EARLY is none", y.order(3, 4), 0);
        // PLAIN: 0 on 0 .. 20, RIPE in 21, so 21 .. 41; 1 on 20 .. 21, RIPE in 22, till 32
        check.due("P8 LATE, PLAIN, is 1 alone", y.day(3), 2);
    }

    /** "and it is the first one, or t is no less than when the one ahead of it was begun, and GAP". */
    private static void everyGap() {
        // 0 on 0 .. 6, RIPE in 106, done by 109; 1 begun in 6 at the least: all else till 106, and then, is waited
        BeforeItGoes x = Check.ruled("ripens 100;takes 2;spoils 0;");
        x.wall(0, 0, 3);
        x.wall(0, 0, 3);
        for (int gap = 0; gap <= 60; gap++) {
            x.set(4, 0, gap);
            int begun = Math.max(6, gap);
            check.dayDue(x, new int[][] {{10, 0}, {11, begun}, {21, begun + 106}, {2, 94 + begun + 106 - 109}});
        }
    }

    /** "the one ahead of it" is that of the order, whatever its number. */
    private static void aheadByTheOrder() {
        BeforeItGoes x = Check.ruled("ripens 200;takes 2;spoils 0;");
        for (int i = 0; i < 3; i++) {
            x.wall(0, 0, 1 + i);
        }
        x.set(4, 0, 30);
        Check.fill(x, 0, 0, 2, 0, 1);
        int[] begun = {30, 60, 0};
        for (int wall = 0; wall < 3; wall++) {
            check.due("P9 when " + wall + " is begun", x.order(0, 10 + wall), begun[wall]);
        }
    }

    /** "t is TAKES by HANDS (cut, 1 at least) more". */
    private static void handsAreCut() {
        BeforeItGoes x = Check.ruled("ripens 10;takes 1;spoils 0;");
        x.wall(0, 0, 1);
        x.set(3, 0, 2);
        for (int yards = 1; yards <= 20; yards++) {
            x.set(7, 0, yards);
            check.due("P8 " + yards + " YARDS by two pairs", x.day(20), Math.max(1, yards / 2) + 10);
        }
        // HOT: 1 and 3, 2 and 3
        x.wall(3, 0, 1);
        x.set(7, 0, 1);
        check.dayDue(x, new int[][] {{11, 1}, {21, 8}});
        x.set(7, 1, 2);
        check.dayDue(x, new int[][] {{11, 1}, {21, 8}});
    }

    /** "the one RIPE first (of like ones the one put on first)": all are RIPE in 106. */
    private static void ofLikeOnes() {
        BeforeItGoes x = Check.ruled("ripens 100 - number;takes 1;spoils 0;");
        for (int i = 0; i < 6; i++) {
            x.wall(0, i, 1);
        }
        for (int i = 0; i < 6; i++) {
            check.dayDue(x, new int[][] {{20 + i, 101}, {30 + i, 101 + i}});
        }
        // the last put on is RIPE a minute ahead of all
        x.set(6, 5, 6);
        check.dayDue(x, new int[][] {{25, 100}, {35, 100}, {30, 101}, {34, 105}});
        // all can be trowelled at once: the one RIPE first still is the first
        x.set(5, 0, 20);
        check.dayDue(x, new int[][] {{35, 80}, {30, 81}, {34, 85}});
        // by an order the other way round all are RIPE in other minutes: 5 in 95, 4 in 97 ..
        x.set(6, 5, 5);
        x.set(5, 0, 0);
        Check.fill(x, 1, 1, 5, 4, 3, 2, 1, 0);
        check.due("P9 RIPE", x.order(1, 25), 96);
        check.due("P9 RIPE", x.order(1, 20), 106);
        // as above, the NUMBERS turned round, too: so RIPE in 101 all, 5 put on first
        for (int i = 0; i < 6; i++) {
            x.set(6, i, 5 - i);
        }
        for (int i = 0; i < 6; i++) {
            check.due("P9 RIPE of " + i, x.order(1, 20 + i), 101);
            check.due("P9 TROWELLED of " + i, x.order(1, 30 + i), 106 - i);
        }
    }

    /** "Else t is 1 more (WAITED)": none is waited by one that always has something to do. */
    private static void waitedToTheEnd() {
        BeforeItGoes x = Check.ruled("ripens 1;takes 1;spoils 0;");
        x.wall(0, 0, 1);
        check.dayDue(x, new int[][] {{2, 1}, {1, 3}});
        x.set(5, 0, 1);
        check.dayDue(x, new int[][] {{2, 0}, {1, 2}});
        x.wall(0, 0, 1);
        x.set(5, 0, 0);
        check.dayDue(x, new int[][] {{2, 0}, {1, 4}});
    }

    /** Promise 9: "-100000: SHEET ..; it is missing". */
    private static void sheetsThatAreNone() {
        BeforeItGoes x = new BeforeItGoes();
        for (int sheet : new int[] {-1, 0, 1, 2, 3, 4, FAR, DEEP}) {
            check.due("P9 order(" + sheet + ", 0)", x.order(sheet, 0), NO_DAY);
        }
        for (int sheet = 0; sheet < 4; sheet++) {
            x.sheet(sheet, 0, 0);
            check.due("P9 none told of none: " + sheet, x.order(sheet, 0), 0);
            x.sheet(sheet, -1, 0);
            check.due("P9 missing again: " + sheet, x.order(sheet, 0), NO_DAY);
        }
    }

    /** Promise 9: "it doesn't tell each WALL once": all rows of two, of three. */
    private static void eachOnce() {
        for (int sort = 0; sort < 3; sort++) {
            BeforeItGoes x = Check.ruled("ripens 9;takes 1;spoils 0;");
            x.wall(0, 0, 1);
            x.wall(0, 0, 1);
            for (int a = -1; a <= 2; a++) {
                for (int b = -1; b <= 2; b++) {
                    Check.fill(x, 0, sort, a, b);
                    boolean each = a == 0 && b == 1 || a == 1 && b == 0;
                    check.due("P9 of sort " + sort + ": " + a + ", " + b, x.order(0, 10), each ? a : NO_DAY);
                }
            }
        }
        BeforeItGoes y = new BeforeItGoes();
        for (int i = 0; i < 3; i++) {
            y.wall(0, 0, 1);
        }
        for (int row = 0; row < 64; row++) {
            int a = row / 16, b = row / 4 % 4, c = row % 4;
            Check.fill(y, 1, 2, a, b, c);
            boolean each = a < 3 && b < 3 && c < 3 && a != b && b != c && a != c;
            check.due("P9 " + a + ", " + b + ", " + c, y.order(1, 3), each ? 0 : NO_DAY);
        }
    }

    private static void tooManyTooFew() {
        for (int size = 0; size <= 40; size++) {
            BeforeItGoes x = new BeforeItGoes();
            for (int i = 0; i < 6; i++) {
                x.wall(0, 0, 1);
            }
            x.sheet(0, 2, size);
            for (int i = 0; i < size; i++) {
                x.cell(0, i, i);
            }
            check.due("P9 of " + size, x.order(0, 15), size == 6 ? 10 : NO_DAY);
        }
        BeforeItGoes y = new BeforeItGoes();
        Check.fill(y, 0, 0, 0, 1);
        check.due("P9 told of two, none stands", y.order(0, 0), NO_DAY);
        y.wall(0, 0, 1);
        check.due("P9 told of two, one stands", y.order(0, 0), NO_DAY);
        y.wall(0, 0, 1);
        check.due("P9 told of two, two stand", y.order(0, 11), 2);
        y.wall(0, 0, 1);
        check.due("P9 told of two, three stand", y.order(0, 0), NO_DAY);
    }

    /** Promise 9: "likewise": by the order of PLAIN all is as of day(). */
    private static void likewise() {
        BeforeItGoes x = new BeforeItGoes();
        for (int i = 0; i < 6; i++) {
            x.wall(i, 5 - i, 3 * i + 2);
            x.set(8, i, i % 2);
        }
        x.set(4, 0, 8);
        x.set(5, 0, 3);
        for (int sort = 0; sort < 3; sort++) {
            Check.fill(x, sort, sort, 0, 1, 2, 3, 4, 5);
            for (int what = 0; what < 50; what++) {
                check.due("P9 order(" + sort + ", " + what + ")", x.order(sort, what), x.day(what));
            }
        }
    }
}
