/** Promises 14 to 16: tooWarm, gains, buckets. */
public final class OtherwiseTest {
    private static final Check check = new Check();

    public static void main(String[] args) {
        tooWarm();
        gains();
        buckets();
        check.end();
    }

    private static void tooWarm() {
        check.due("P14 no WALLS", new BeforeItGoes().tooWarm(), -1);
        // 0 on 0 .. 1, ripe in 1 and 60 less WARM, lasts 10 more; 1 on 1 .. 21:
        // 0 is LATE if 71 less WARM is below 21
        warm("ripens 60 - warm;takes 1;spoils 0;", -1);
        warm("ripens 40 - warm;takes 1;spoils 0;", 31);
        warm("ripens 50 - warm;takes 1;spoils 0;", -1);
        warm("ripens 49 - warm;takes 1;spoils 0;", 40);
        // LATE by all WARM; by all but 40; by 35 .. 40 and also by 3
        warm("ripens 1;takes 1;spoils 0;", 0);
        warm("ripens 1 + 19 * (warm = 40);takes 1;spoils 0;", -1);
        warm("ripens 1 + 19 * (warm < 35 and not warm = 3);takes 1;spoils 0;", 35);
        warm("ripens 1 + 19 * (warm = 0);takes 1;spoils 0;", 1);
        // EARLY is not LATE
        BeforeItGoes x = Check.ruled("ripens 60;takes 1;spoils 9;");
        x.wall(0, 0, 1);
        x.set(5, 0, 20);
        check.due("P14 EARLY alone", x.tooWarm(), -1);
    }

    private static void warm(String rule, int due) {
        BeforeItGoes x = Check.ruled(rule);
        x.wall(0, 0, 1);
        x.wall(0, 0, 20);
        x.set(0, 0, 7);
        check.due("P14 tooWarm() by " + rule, x.tooWarm(), due);
        check.due("P14 WARM stays", x.count(1), 7);
    }

    private static void gains() {
        BeforeItGoes x = new BeforeItGoes();
        check.due("P15 no WALLS", x.gains(0), 0);
        check.due("P15 no WALLS", x.gains(1), 0);
        check.due("P15 gains(2)", x.gains(2), -100000);
        check.due("P15 gains(-1)", x.gains(-1), -100000);
        // 0 on 0 .. 1, ripe in 21 with DIRT 0, in 3 with DIRT 9, then LATE by 21 less 13; half as much by two pairs
        BeforeItGoes y = Check.ruled("ripens 20 - dirt * 2;takes 1;spoils off;");
        y.wall(0, 0, 1);
        y.wall(0, 0, 20);
        y.set(2, 0, 4);
        check.due("P15 A DIRTY BUCKET", y.gains(0), 8);
        // DONE: 1 ripe in 33, 33 .. 53; by two: 1 on 1 .. 11, ripe in 23, 23 .. 43
        check.due("P15 SECOND PAIR", y.gains(1), 10);
        check.due("P15 DIRT stays", y.count(3), 4);
        check.due("P15 HANDS stay", y.count(4), 1);
        y.set(3, 0, 2);
        check.due("P15 by two, DIRT matters less", y.gains(0), 0);
        check.due("P15 HANDS don't matter", y.gains(1), 10);
        check.due("P15 HANDS stay", y.count(4), 2);
        // the other way round: a bucket that DIRT makes better
        BeforeItGoes z = Check.ruled("ripens 2 + dirt * 2;takes 1;spoils off;");
        z.wall(0, 0, 1);
        z.wall(0, 0, 20);
        check.due("P15 below 0", z.gains(0), -8);
    }

    private static void buckets() {
        BeforeItGoes x = new BeforeItGoes();
        check.due("P16 no WALLS", x.buckets(40, 0), 0);
        check.due("P16 no WALLS", x.buckets(40, 1), 0);
        int[][] bad = {{0, 0}, {-1, 0}, {41, 0}, {1, -1}, {1, 2}};
        for (int[] b : bad) {
            check.due("P16 buckets(" + b[0] + ", " + b[1] + ")", x.buckets(b[0], b[1]), -2);
        }
        // begun in 0, 10, 16, all of one bucket while it is good, which is for 20 minutes
        BeforeItGoes y = Check.ruled("ripens 20;takes 2;spoils 0;");
        y.wall(0, 0, 5);
        y.wall(0, 0, 3);
        y.wall(0, 0, 2);
        due(y, 10, 1, 0);
        due(y, 40, 1, 30);
        // of 8: two of it, 0 left; a new one, 6 THROWN. of 7: 2 left; thrown; 7 for 3, 4 left, of it 2: 2 THROWN
        due(y, 8, 2, 6);
        due(y, 7, 2, 4);
        // of 1: 5, 3, 2. of 4: two for 5, of the 3 left 3; one for 2
        due(y, 1, 10, 0);
        due(y, 4, 3, 2);
        // the third begun 20 behind the first; then in 23, as 0 is ripe in 22
        y.set(4, 0, 10);
        check.due("P16 begun in 20", y.day(12), 20);
        due(y, 10, 1, 0);
        y.set(7, 0, 1);
        y.set(7, 1, 1);
        y.set(4, 0, 11);
        check.due("P16 begun in 23", y.day(12), 23);
        due(y, 10, 2, 16);
        // the bucket for 1, mixed in 12, is good for 2, begun in 24
        BeforeItGoes w = Check.ruled("ripens 20;takes 2;spoils 0;");
        w.wall(0, 0, 5);
        w.wall(0, 0, 3);
        w.wall(0, 0, 2);
        w.set(4, 0, 12);
        check.due("P16 begun in 12", w.day(11), 12);
        check.due("P16 begun in 24", w.day(12), 24);
        due(w, 5, 2, 0);
        // RIPENS is that of the WALL for which it is taken: BRICK of 1 ripens in 17, begun in 17, in 18
        BeforeItGoes z = Check.ruled("ripens 20;takes 1;spoils 0;");
        z.wall(0, 0, 17);
        z.wall(1, 1, 3);
        due(z, 20, 1, 0);
        z.set(7, 0, 16);
        due(z, 20, 1, 1);
        z.set(7, 0, 18);
        z.set(7, 1, 1);
        due(z, 20, 2, 21);
        // WALLS that are never begun need no bucket
        BeforeItGoes u = Check.ruled("ripens 240;takes 20;spoils 999;");
        for (int i = 0; i < 6; i++) {
            u.wall(5, 0, 20);
        }
        check.due("P16 never begun", u.day(15), -1);
        due(u, 20, 5, 0);
    }

    private static void due(BeforeItGoes x, int b, int mixed, int thrown) {
        check.due("P16 buckets(" + b + ", 0)", x.buckets(b, 0), mixed);
        check.due("P16 buckets(" + b + ", 1)", x.buckets(b, 1), thrown);
    }
}
