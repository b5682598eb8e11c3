/** Promises 10 to 13: best, good, wetting, alone; the days were lived by hand. */
public final class BestTest {
    private static final Check check = new Check();

    public static void main(String[] args) {
        best();
        everyOrder("");
        good();
        wetting();
        alone();
        check.end();
    }

    private static void best() {
        BeforeItGoes x = new BeforeItGoes();
        for (int what = 0; what <= 2; what++) {
            check.due("P10 no WALLS: best(" + what + ")", x.best(what), 0);
        }
        check.due("P10 best(3)", x.best(3), -2);
        check.due("P10 best(-1)", x.best(-1), -2);
        x.wall(0, 0, 1);
        check.due("P10 one", x.best(2), 1);

        // PLAIN 0 is 10 late, BAD; by 1, 0: 1 on 0 .. 40, ripe in 60; 0 on 40 .. 44; 1 60 .. 80; 0 is 6 late.
        BeforeItGoes y = Check.ruled("ripens 20;takes 2;spoils off;");
        y.wall(0, 0, 2);
        y.wall(0, 0, 20);
        check.due("P10 PLAIN is worse", y.day(0), 10);
        check.due("P10 BAD", y.best(0), 6);
        check.due("P10 DONE", y.best(1), 82);
        check.due("P10 the order", y.best(2), 21);

        // nothing is BAD. 0, 1: on 0 .. 6 .. 16, ripe in 35, 36; 35 .. 38 .. 43.
        // 1, 0: on 0 .. 10 .. 16, ripe in 30, 45; 30 .. 35, 45 .. 48
        BeforeItGoes z = Check.ruled("ripens 20 + number;takes 2;spoils 0;");
        z.wall(0, 9, 3);
        z.wall(0, 0, 5);
        check.due("P10 the least DONE", z.best(1), 43);
        check.due("P10 the first of like", z.best(2), 12);
        // turned round: 1, 0 is done first
        BeforeItGoes u = Check.ruled("ripens 20 + number;takes 2;spoils 0;");
        u.wall(0, 0, 5);
        u.wall(0, 9, 3);
        check.due("P10 the least DONE", u.best(1), 43);
        check.due("P10 the order", u.best(2), 21);

        // 5 is RIPE in 67 at the least, so DONE 69 at the least; by the very last order all else is done by then
        BeforeItGoes w = Check.ruled("ripens 20 + number * 9;takes 1;spoils off;");
        int[] yards = {7, 2, 5, 5, 3, 2};
        for (int i = 0; i < 6; i++) {
            w.wall(0, i, yards[i]);
        }
        check.due("P10 PLAIN is done later", w.day(1), 91);
        check.due("P10 BAD", w.best(0), 0);
        check.due("P10 DONE", w.best(1), 69);
        check.due("P10 the last order", w.best(2), 654321);

        // six alike: all orders are like ones, so the first
        BeforeItGoes v = new BeforeItGoes();
        for (int i = 0; i < 6; i++) {
            v.wall(0, 0, 4);
        }
        check.due("P10 six alike", v.best(2), 123456);
        check.due("P10 PLAIN then", v.best(0), v.day(0));
        check.due("P10 PLAIN then", v.best(1), v.day(1));
    }

    /** The six of which just one order is best, numbered in each of 720 ways: each order is best once. */
    private static void everyOrder(String begin) {
        for (int next = 1; next <= 6 && begin.length() < 6; next++) {
            if (begin.indexOf('0' + next) < 0) {
                everyOrder(begin + next);
            }
        }
        if (begin.length() < 6) {
            return;
        }
        int[] yards = {7, 2, 5, 5, 3, 2};
        BeforeItGoes x = Check.ruled("ripens 20 + number * 9;takes 1;spoils off;");
        for (int wall = 1; wall <= 6; wall++) {
            int number = 5 - begin.indexOf('0' + wall);
            x.wall(0, number, yards[number]);
        }
        check.due("P10 the order of " + begin, x.best(2), Integer.parseInt(begin));
    }

    private static void good() {
        BeforeItGoes x = new BeforeItGoes();
        for (int what = 0; what <= 2; what++) {
            check.due("P11 no WALLS", x.good(0, what), 0);
            check.due("P11 no WALLS", x.good(1, what), 0);
        }
        int[][] bad = {{-1, 0}, {2, 0}, {0, -1}, {0, 3}, {1, 3}};
        for (int[] b : bad) {
            check.due("P11 good(" + b[0] + ", " + b[1] + ")", x.good(b[0], b[1]), -2);
        }
        // ripe in 20: 0 on 0 .. 2, ripe in 22 .. 32; 1 takes 40. A GAP of 22 on trowels 0 first, 22 .. 23;
        // 1 on 23 .. 63, 83 .. 103. Less GAP: BAD, and 1 on GAP .. GAP + 40: below 3 it is 0 that is 10 late
        BeforeItGoes y = Check.ruled("ripens 20;takes 2;spoils off;");
        y.wall(0, 0, 1);
        y.wall(0, 0, 20);
        check.due("P11 GOOD GAP", y.good(0, 0), 22);
        check.due("P11 BAD then", y.good(0, 1), 0);
        check.due("P11 DONE then", y.good(0, 2), 103);
        check.due("P11 the GAP stays", y.count(5), 0);
        check.due("P11 BAD without", y.day(0), 10);

        // one WALL: on 0 .. 2, RIPE in 22; EAGER it is OFF, but spoils tells 0 above -5: DONE least by 4
        BeforeItGoes z = Check.ruled("ripens 20;takes 2;spoils off < -4;");
        z.wall(0, 0, 1);
        z.set(5, 0, 20);
        check.due("P11 GOOD EAGER", z.good(1, 0), 4);
        check.due("P11 BAD then", z.good(1, 1), 0);
        check.due("P11 DONE then", z.good(1, 2), 19);
        check.due("P11 EAGER stays", z.count(6), 20);
        check.due("P11 of like GAPS the least", z.good(0, 0), 0);
        check.due("P11 a GAP, EAGER as it is", z.good(0, 1), 1);
        check.due("P11 a GAP, EAGER as it is", z.good(0, 2), 3);
        // the more EAGER the better: 20, the greatest
        BeforeItGoes u = Check.ruled("ripens 60;takes 2;spoils 0;");
        u.wall(0, 0, 1);
        check.due("P11 GOOD EAGER is 20", u.good(1, 0), 20);
        check.due("P11 DONE then", u.good(1, 2), 43);
        // 60 is the greatest GAP
        BeforeItGoes w = Check.ruled("ripens 59;takes 1 + 19 * number;spoils off;");
        w.wall(0, 0, 1);
        w.wall(0, 1, 20);
        // 0 on 0 .. 1, RIPE in 60; 1 takes 400, so by all GAPS below 60 it is late
        check.due("P11 GOOD GAP is 60", w.good(0, 0), 60);
        check.due("P11 BAD then", w.good(0, 1), 0);
    }

    private static void wetting() {
        BeforeItGoes x = new BeforeItGoes();
        check.due("P12 no WALLS", x.wetting(99, 0), 0);
        check.due("P12 no WALLS", x.wetting(99, 1), 0);
        int[][] bad = {{-1, 0}, {100, 0}, {0, -1}, {0, 2}};
        for (int[] b : bad) {
            check.due("P12 wetting(" + b[0] + ", " + b[1] + ")", x.wetting(b[0], b[1]), -2);
        }
        // BRICK of 5: on 0 .. 1, ripe in 6, lasts till 14, WET ripe in 16, till 24; 1 on 1 .. 21
        BeforeItGoes y = Check.ruled("ripens 20;takes 1;spoils off;");
        y.wall(1, 5, 1);
        y.wall(0, 0, 20);
        y.set(8, 1, 1);
        check.due("P12 as it is", y.day(0), 7);
        check.due("P12 just 0", y.wetting(0, 0), 1);
        check.due("P12 nothing is BAD", y.wetting(0, 1), 0);
        check.due("P12 by 6", y.wetting(6, 0), 1);
        check.due("P12 by 6", y.wetting(6, 1), 6);
        check.due("P12 of like ones the least", y.wetting(7, 0), 0);
        check.due("P12 of like ones the least", y.wetting(7, 1), 7);
        check.due("P12 by 99", y.wetting(99, 0), 0);
        check.due("P12 WET stays", y.told(1, 3), 1);
        check.due("P12 WET stays", y.told(0, 3), 0);
        // 0 on 0 .. 1, 1 on 1 .. 2, 2 on 2 .. 22: BAD is 16; 7 with 0 WET, 8 with 1 WET, 0 with both
        BeforeItGoes z = Check.ruled("ripens 20;takes 1;spoils off;");
        z.wall(1, 5, 1);
        z.wall(1, 5, 1);
        z.wall(0, 0, 20);
        int[][] due = {{0, 3, 0}, {5, 3, 10}, {7, 1, 14}, {8, 1, 15}, {9, 0, 16}};
        for (int[] row : due) {
            check.due("P12 two: the set by " + row[0], z.wetting(row[0], 0), row[1]);
            check.due("P12 two: that together by " + row[0], z.wetting(row[0], 1), row[2]);
        }
    }

    private static void alone() {
        BeforeItGoes x = new BeforeItGoes();
        check.due("P13 none", x.alone(), 0);
        // each 2 minutes on: fine however many
        BeforeItGoes y = Check.ruled("ripens 20;takes 2;spoils off;");
        for (int n = 1; n <= 6; n++) {
            y.wall(0, 0, 1);
            check.due("P13 of " + n, y.alone(), n);
        }
        // with 1 of 20 yards 0 is late
        BeforeItGoes z = Check.ruled("ripens 20;takes 2;spoils off;");
        z.wall(0, 0, 1);
        z.wall(0, 0, 20);
        z.wall(0, 0, 1);
        check.due("P13 1", z.alone(), 1);
        check.due("P13 the WALLS stay", z.count(0), 3);
        // the first alone is BAD: it is trowelled too early
        BeforeItGoes u = Check.ruled("ripens 20;takes 2;spoils 0 < off + 30;");
        u.wall(0, 0, 1);
        u.set(5, 0, 1);
        check.due("P13 not even one", u.alone(), 0);
        // EAGER: 0 alone is trowelled in 21, OFF by -1: BAD. With 1, on till 22, it is not: RIPE in 22, 1 in 42
        // (1, EAGER too, but spoils tells 0 of it)
        BeforeItGoes v = Check.ruled("ripens 20;takes 2 + 18 * number;spoils number = 0;");
        v.wall(0, 0, 1);
        v.set(5, 0, 1);
        check.due("P13 none of one", v.alone(), 0);
        v.wall(0, 1, 1);
        check.due("P13 two, though not one", v.alone(), 2);
    }
}
