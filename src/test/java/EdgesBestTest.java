/** Promises 10 to 16: a test for each sentence of the document that names an edge; the days were lived by hand. */
public final class EdgesBestTest {
    private static final int FAR = Integer.MAX_VALUE, DEEP = Integer.MIN_VALUE, NO_DAY = -100000, BAD = -2, NONE = -1;
    private static final Check check = new Check();

    public static void main(String[] args) {
        noWalls();
        oneWall();
        whats();
        badAheadOfDone();
        ofLikeOrdersTheFirst();
        gapWithin();
        eagerWithin();
        ofLikeOnesTheLeast();
        wettingNoneOrSome();
        wettingTheLast();
        justTheseWet();
        aloneAtLeastAtMost();
        warmFrom();
        warmWithAHole();
        dirtBothWays();
        handsBothWays();
        bucketsOfAllSizes();
        leftHasAllItsYards();
        mixedTooLongAgo();
        neverBegun();
        nothingIsChanged();
        check.end();
    }

    /** Promise 10: "(2; 0: there are no WALLS)"; all others of none. */
    private static void noWalls() {
        BeforeItGoes x = new BeforeItGoes();
        for (int what = 0; what <= 2; what++) {
            check.due("P10 best(" + what + ")", x.best(what), 0);
            check.due("P11 good(0, " + what + ")", x.good(0, what), 0);
            check.due("P11 good(1, " + what + ")", x.good(1, what), 0);
        }
        for (int what = 0; what <= 1; what++) {
            check.due("P12 wetting(99, " + what + ")", x.wetting(99, what), 0);
            check.due("P15 gains(" + what + ")", x.gains(what), 0);
            check.due("P16 buckets(1, " + what + ")", x.buckets(1, what), 0);
            check.due("P16 buckets(40, " + what + ")", x.buckets(40, what), 0);
        }
        check.due("P13 alone()", x.alone(), 0);
        check.due("P14 tooWarm()", x.tooWarm(), NONE);
    }

    /** On 0 .. 10, RIPE in 30, 30 .. 35. */
    private static void oneWall() {
        BeforeItGoes x = Check.ruled("ripens 20;takes 2;spoils 100;");
        x.wall(0, 0, 5);
        int[] best = {0, 35, 1};
        for (int what = 0; what < 3; what++) {
            check.due("P10 best(" + what + ")", x.best(what), best[what]);
        }
        x.set(5, 0, 2);
        int[] then = {100, 33, 1};
        for (int what = 0; what < 3; what++) {
            check.due("P10 EAGER: best(" + what + ")", x.best(what), then[what]);
        }
    }

    /** "BAD", "BAD: c, what", "-100000: what". */
    private static void whats() {
        BeforeItGoes x = new BeforeItGoes();
        x.wall(0, 0, 1);
        for (int other : new int[] {-1, 3, 10, FAR, DEEP}) {
            check.due("P10 best(" + other + ")", x.best(other), BAD);
            check.due("P11 good(0, " + other + ")", x.good(0, other), BAD);
            check.due("P11 good(1, " + other + ")", x.good(1, other), BAD);
        }
        for (int other : new int[] {-1, 2, 3, FAR, DEEP}) {
            check.due("P11 good(" + other + ", 0)", x.good(other, 0), BAD);
            check.due("P12 wetting(0, " + other + ")", x.wetting(0, other), BAD);
            check.due("P15 gains(" + other + ")", x.gains(other), NO_DAY);
            check.due("P16 buckets(1, " + other + ")", x.buckets(1, other), BAD);
        }
        for (int c = -1; c <= 100; c++) {
            check.due("P12 wetting(" + c + ", 0)", x.wetting(c, 0), c < 0 || c > 99 ? BAD : 0);
        }
        for (int b = -1; b <= 41; b++) {
            check.due("P16 buckets(" + b + ", 0)", x.buckets(b, 0), b < 1 || b > 40 ? BAD : 1);
        }
        for (int far : new int[] {FAR, DEEP}) {
            check.due("P12 wetting(" + far + ", 0)", x.wetting(far, 0), BAD);
            check.due("P16 buckets(" + far + ", 0)", x.buckets(far, 0), BAD);
        }
    }

    /**
     * "by which BAD is least; of like ones the least DONE". PLAIN: 0 on 0 .. 20, 1 on .. 22, 0 in 40 .. 60,
     * 1 8 late, .. 61. The other way: 1 on 0 .. 2, 0 on .. 22, 1 .. 23, 0 in 42 .. 62.
     */
    private static void badAheadOfDone() {
        BeforeItGoes x = Check.ruled("ripens 20;takes 1;spoils off;");
        x.wall(0, 0, 20);
        x.wall(5, 0, 1);
        check.due("P8 BAD, PLAIN", x.day(0), 8);
        check.due("P8 DONE, PLAIN", x.day(1), 61);
        int[] best = {0, 62, 21};
        for (int what = 0; what < 3; what++) {
            check.due("P10 best(" + what + ")", x.best(what), best[what]);
        }
    }

    /** "of like ones the first", for each number of WALLS; "the first the highest". */
    private static void ofLikeOrdersTheFirst() {
        BeforeItGoes x = new BeforeItGoes();
        int digits = 0;
        for (int wall = 0; wall < 6; wall++) {
            x.wall(0, 0, 2);
            digits = digits * 10 + wall + 1;
            check.due("P10 the first of like orders", x.best(2), digits);
        }
        // two are of another kind, and ahead of all others they are best: 3 and 5, RIPE 30 minutes later
        BeforeItGoes y = Check.ruled("ripens 20 + 30 * (number = 1);takes 1;spoils 0;");
        for (int wall = 0; wall < 6; wall++) {
            y.wall(0, wall == 3 || wall == 5 ? 1 : 0, 2);
        }
        // 3 on 0 .. 2, RIPE in 52; 5 on 2 .. 4, RIPE in 54; all others are done by then: DONE 56
        check.due("P10 DONE", y.best(1), 56);
        check.due("P10 two ahead, both in order", y.best(2), 461235);
    }

    /** "the GAP (0 .. 60)": by 61 nothing would be BAD, but there is none; 0 and 1 are like ones. */
    private static void gapWithin() {
        BeforeItGoes x = Check.ruled("ripens 60;takes 1 + 19 * number;spoils off;");
        x.wall(0, 0, 1);
        x.wall(0, 1, 20);
        int[] due = {0, 330, 481};
        for (int what = 0; what < 3; what++) {
            check.due("P11 good(0, " + what + ")", x.good(0, what), due[what]);
        }
        // RIPE a minute earlier: 60 it is; 1 on 61 .. 461, RIPE in 520, 520 .. 540
        BeforeItGoes y = Check.ruled("ripens 59;takes 1 + 19 * number;spoils off;");
        y.wall(0, 0, 1);
        y.wall(0, 1, 20);
        int[] then = {60, 0, 540};
        for (int what = 0; what < 3; what++) {
            check.due("P11 good(0, " + what + ")", y.good(0, what), then[what]);
        }
    }

    /** "GOOD EAGER (0 .. 20) likewise": by 21 it would be done a minute earlier still. */
    private static void eagerWithin() {
        BeforeItGoes x = Check.ruled("ripens 60;takes 2;spoils 0;");
        x.wall(0, 0, 1);
        int[] due = {20, 0, 43};
        for (int what = 0; what < 3; what++) {
            check.due("P11 good(1, " + what + ")", x.good(1, what), due[what]);
        }
        BeforeItGoes y = Check.ruled("ripens 60;takes 2;spoils 1;");
        y.wall(0, 0, 1);
        y.set(5, 0, 20);
        int[] then = {0, 0, 63};
        for (int what = 0; what < 3; what++) {
            check.due("P11 good(1, " + what + ")", y.good(1, what), then[what]);
        }
    }

    /** "of like ones the least": one WALL by all GAPS; one that is RIPE as it is put on, but for 5 minutes. */
    private static void ofLikeOnesTheLeast() {
        BeforeItGoes x = Check.ruled("ripens 5;takes 2;spoils 0;");
        x.wall(0, 0, 1);
        x.set(4, 0, 44);
        check.due("P11 of all GAPS the least", x.good(0, 0), 0);
        check.due("P11 of EAGER 5 .. 20 the least", x.good(1, 0), 5);
        check.due("P11 DONE then", x.good(1, 2), 3);
        check.due("P11 the GAP stays", x.count(5), 44);
    }

    /**
     * "and c (0 .. 99) times how many are WET, together". Each but the last is put on 21 minutes ahead of
     * being trowelled: RIPENS 5, LASTS 8; WET, RIPENS 15.
     */
    private static void wettingNoneOrSome() {
        BeforeItGoes x = Check.ruled("ripens 20;takes 20;spoils 99;");
        for (int i = 0; i < 6; i++) {
            x.wall(1, 5, 1);
        }
        check.due("P8 BAD, as it is", x.day(0), 5 * 99);
        int[][] due = {{0, 31, 0}, {1, 31, 5}, {98, 31, 490}, {99, 0, 495}};
        for (int[] row : due) {
            check.due("P12 wetting(" + row[0] + ", 0)", x.wetting(row[0], 0), row[1]);
            check.due("P12 wetting(" + row[0] + ", 1)", x.wetting(row[0], 1), row[2]);
        }
        BeforeItGoes y = Check.ruled("ripens 20;takes 20;spoils 100;");
        for (int i = 0; i < 6; i++) {
            y.wall(1, 5, 1);
        }
        check.due("P12 by 99, the set", y.wetting(99, 0), 31);
        check.due("P12 by 99, together", y.wetting(99, 1), 495);
    }

    /**
     * "of all sets of WALLS": the greatest bit. 0 .. 3 on 0 .. 4, RIPE in 41 .. 44; 4 on 4 .. 24, RIPE in 37;
     * 5 on 24 .. 25, RIPE in 47, till 54; 4 in 37 .. 57, 0 .. 3 till 61: 5 is too late; WET it is RIPE in 59.
     */
    private static void wettingTheLast() {
        BeforeItGoes x = Check.ruled("ripens 40 - 27 * (number = 9);takes 1;spoils 50 * (number = 6);");
        for (int i = 0; i < 4; i++) {
            x.wall(0, 0, 1);
        }
        x.wall(0, 9, 20);
        x.wall(1, 6, 1);
        check.due("P8 5 is trowelled", x.day(35), 61);
        check.due("P8 5 is OFF", x.day(45), 7);
        int[][] due = {{0, 32, 0}, {49, 32, 49}, {50, 0, 50}, {99, 0, 50}};
        for (int[] row : due) {
            check.due("P12 wetting(" + row[0] + ", 0)", x.wetting(row[0], 0), row[1]);
            check.due("P12 wetting(" + row[0] + ", 1)", x.wetting(row[0], 1), row[2]);
        }
    }

    /** "were just these WET": what is WET now doesn't matter, and stays. */
    private static void justTheseWet() {
        BeforeItGoes x = Check.ruled("ripens 20;takes 20;spoils 99;");
        for (int i = 0; i < 6; i++) {
            x.wall(1, 5, 1);
        }
        for (int i = 0; i < 6; i++) {
            x.set(8, i, 1);
            check.due("P12 wetting(0, 0)", x.wetting(0, 0), 31);
            check.due("P12 wetting(99, 0)", x.wetting(99, 0), 0);
            check.due("P12 wetting(99, 1)", x.wetting(99, 1), 495);
            check.due("P12 " + i + " stays WET", x.told(i, 3), 1);
        }
    }

    /** "the greatest n such that BAD is 0, were there WALLS 0 .. n less 1 alone". */
    private static void aloneAtLeastAtMost() {
        // each is BAD: not even one
        BeforeItGoes x = Check.ruled("ripens 20;takes 1;spoils 1;");
        x.set(5, 0, 1);
        for (int i = 0; i < 6; i++) {
            x.wall(0, 0, 1);
            check.due("P13 none of " + i, x.alone(), 0);
        }
        // the last of six is BAD: five; or the first is: none
        for (int bad = 0; bad < 6; bad++) {
            BeforeItGoes y = Check.ruled("ripens 20;takes 1;spoils number;");
            y.set(5, 0, 1);
            for (int i = 0; i < 6; i++) {
                y.wall(0, i == bad ? 1 : 0, 1);
            }
            check.due("P13 up to " + bad, y.alone(), bad);
            check.due("P13 six stay", y.count(0), 6);
            y.set(6, bad, 0);
            check.due("P13 all", y.alone(), 6);
        }
    }

    /** Two WALLS: 0 on 0 .. 1, trowelled in 21; it ripens in 20, not LATE, or in 1, LATE. */
    private static BeforeItGoes warmed(String e) {
        BeforeItGoes x = Check.ruled("ripens 1 + 19 * (" + e + ");takes 1;spoils 0;");
        x.wall(0, 0, 1);
        x.wall(0, 0, 20);
        return x;
    }

    /** "the least WARM such that by it and by all greater ones (to 40)"; "NONE: by 40 none would". */
    private static void warmFrom() {
        for (int from = 0; from <= 41; from++) {
            BeforeItGoes x = warmed("warm < " + from);
            check.due("P14 LATE from " + from + " on", x.tooWarm(), from <= 40 ? from : NONE);
        }
    }

    private static void warmWithAHole() {
        for (int hole = 0; hole <= 40; hole++) {
            BeforeItGoes x = warmed("warm = " + hole);
            check.due("P14 LATE by all but " + hole, x.tooWarm(), hole < 40 ? hole + 1 : NONE);
            BeforeItGoes y = warmed("not warm = " + hole);
            check.due("P14 LATE by " + hole + " alone", y.tooWarm(), hole < 40 ? NONE : 40);
        }
    }

    /** "BAD with DIRT 9 less BAD with DIRT 0", whatever it is: 0 on 0 .. 1, in 21; by DIRT 9 RIPE in 3, 8 late. */
    private static void dirtBothWays() {
        BeforeItGoes x = Check.ruled("ripens 20 - dirt * 2;takes 1;spoils off;");
        x.wall(0, 0, 1);
        x.wall(0, 0, 20);
        BeforeItGoes y = Check.ruled("ripens 2 + dirt * 2;takes 1;spoils off;");
        y.wall(0, 0, 1);
        y.wall(0, 0, 20);
        for (int dirt = 0; dirt <= 9; dirt++) {
            x.set(2, 0, dirt);
            check.due("P8 BAD by DIRT " + dirt, x.day(0), Math.max(0, 2 * dirt - 10));
            check.due("P15 gains(0), DIRT is " + dirt, x.gains(0), 8);
            check.due("P15 DIRT stays", x.count(3), dirt);
            y.set(2, 0, dirt);
            check.due("P15 gains(0) below 0, DIRT is " + dirt, y.gains(0), -8);
        }
    }

    /** "DONE with HANDS 1 less DONE with HANDS 2": below 0, too. */
    private static void handsBothWays() {
        // on 0 .. 40 or 0 .. 20, 20 more, 20 more
        BeforeItGoes x = Check.ruled("ripens 20;takes 2;spoils 0;");
        x.wall(0, 0, 20);
        // 0 on 0 .. 3, RIPE in 4; 1, RIPENS 1, on .. 5, in 6; by two: on 0 .. 1, RIPE in 2; 1 on .. 2; 0; 1
        BeforeItGoes y = Check.ruled("ripens 1;takes 1;spoils 0;");
        y.wall(0, 0, 3);
        for (int hands = 1; hands <= 2; hands++) {
            x.set(3, 0, hands);
            check.due("P8 DONE", x.day(1), hands == 1 ? 80 : 60);
            check.due("P15 gains(1)", x.gains(1), 20);
            check.due("P15 HANDS stay", x.count(4), hands);
            y.set(3, 0, hands);
            check.due("P8 DONE", y.day(1), hands == 1 ? 7 : 5);
            check.due("P15 gains(1)", y.gains(1), 2);
        }
        // of 1 yard: 1 at least, so as quick by one
        y.set(7, 0, 1);
        check.due("P15 nothing", y.gains(1), 0);
    }

    /** "BUCKETS of b yards (1 .. 40)", "as few new ones as have its YARDS", "at last what is left is THROWN". */
    private static void bucketsOfAllSizes() {
        for (int yards : new int[] {1, 7, 19, 20}) {
            BeforeItGoes x = new BeforeItGoes();
            x.wall(0, 0, yards);
            for (int b = 1; b <= 40; b++) {
                int mixed = 1;
                while (mixed * b < yards) {
                    mixed++;
                }
                due(x, b, mixed, mixed * b - yards);
            }
        }
    }

    private static void due(BeforeItGoes x, int b, int mixed, int thrown) {
        check.due("P16 buckets(" + b + ", 0)", x.buckets(b, 0), mixed);
        check.due("P16 buckets(" + b + ", 1)", x.buckets(b, 1), thrown);
    }

    /** "if what is left has all its YARDS": just so many, one less, one more; it does not get smaller by itself. */
    private static void leftHasAllItsYards() {
        BeforeItGoes x = Check.ruled("ripens 240;takes 1;spoils 0;");
        x.wall(0, 0, 6);
        x.wall(0, 0, 4);
        due(x, 10, 1, 0);
        due(x, 11, 1, 1);
        // 3 left are THROWN; 5 are left
        due(x, 9, 2, 8);
        // two of 5 have 6 YARDS and 4 more; two of 4 just 2 more
        due(x, 5, 2, 0);
        due(x, 4, 3, 2);
        due(x, 3, 4, 2);
        due(x, 1, 10, 0);
        x.wall(0, 0, 20);
        // of 12: 2 left, THROWN; two, 4 left
        due(x, 12, 3, 6);
        due(x, 30, 1, 0);
        due(x, 40, 1, 10);
        due(x, 29, 2, 28);
    }

    /** "was mixed no more than RIPENS of it ahead of when it is begun": of the WALL that is begun, and by its KIND. */
    private static void mixedTooLongAgo() {
        for (int ripens = 28; ripens <= 32; ripens++) {
            BeforeItGoes x = Check.ruled("ripens " + ripens + ";takes 1;spoils 0;");
            x.wall(0, 0, 1);
            x.wall(0, 0, 1);
            x.set(4, 0, 60);
            due(x, 2, 2, 2);
            // begun in 30: 0 is trowelled ahead of it, if it is RIPE by then, in 29 or 30
            x.set(4, 0, 30);
            int begun = ripens == 29 ? 31 : 30;
            check.due("P8 1 is begun, RIPENS " + ripens, x.day(11), begun);
            due(x, 2, ripens >= begun ? 1 : 2, ripens >= begun ? 0 : 2);
        }
        // mixed in 0, PAINTED in 40 has more time, a BRICK less, WET not so much less
        int[][] kinds = {{0, 0, 0, 2}, {2, 5, 0, 2}, {2, 6, 0, 1}, {2, 7, 0, 1}, {1, 1, 0, 2}};
        for (int[] kind : kinds) {
            BeforeItGoes y = Check.ruled("ripens 28;takes 20;spoils 0;");
            y.wall(0, 0, 2);
            y.wall(kind[0], kind[1], 1);
            check.due("P8 begun", y.day(11), 40);
            due(y, 3, kind[3], kind[3] == 2 ? 3 : 0);
        }
        // begun in 0, 20, 40, 60: what is left for the last was mixed in 40, not in 20
        BeforeItGoes z = Check.ruled("ripens 30;takes 1;spoils 0;");
        for (int yards : new int[] {3, 3, 2, 1}) {
            z.wall(0, 0, yards);
        }
        z.set(4, 0, 20);
        check.dayDue(z, new int[][] {{11, 20}, {12, 40}, {13, 60}});
        due(z, 3, 3, 0);
    }

    /** "for each WALL that is begun": the last is not; of four the buckets are all used. */
    private static void neverBegun() {
        BeforeItGoes x = Check.ruled("ripens 240;takes 20;spoils 0;");
        for (int i = 0; i < 6; i++) {
            x.wall(5, 0, i == 5 ? 1 : 20);
        }
        check.due("P8 5 is not begun", x.day(15), -1);
        due(x, 20, 5, 0);
        due(x, 1, 100, 0);
        due(x, 40, 5, 100);
    }

    /** What would be changes nothing of what is. */
    private static void nothingIsChanged() {
        String before = Probe.of(stand());
        BeforeItGoes x = stand();
        for (int what = 0; what < 3; what++) {
            x.best(what);
            x.good(0, what);
            x.good(1, what);
        }
        for (int what = 0; what < 2; what++) {
            x.wetting(7, what);
            x.gains(what);
            x.buckets(7, what);
        }
        x.alone();
        x.tooWarm();
        x.day(0);
        x.order(0, 0);
        check.due("P8 .. P16 change nothing", before.equals(Probe.of(x)) ? 1 : 0, 1);
    }

    private static BeforeItGoes stand() {
        BeforeItGoes x = new BeforeItGoes();
        x.wall(1, 5, 6);
        x.wall(3, 4, 9);
        x.wall(4, 3, 2);
        x.set(8, 1, 1);
        x.set(2, 0, 4);
        x.set(3, 0, 2);
        x.set(4, 0, 9);
        x.set(5, 0, 5);
        Check.fill(x, 0, 0, 2, 0, 1);
        return x;
    }
}
