/** Promises 17 to 24: books, warms, film, drawn, chance, image, back, count. */
public final class BooksTest {
    private static final long NO = -4611686018427387904L;
    private static final Check check = new Check();

    public static void main(String[] args) {
        badBooks();
        books();
        kinds();
        warms();
        film();
        drawn();
        chance();
        image();
        count();
        check.end();
    }

    private static void badBooks() {
        BeforeItGoes x = new BeforeItGoes();
        x.wall(0, 0, 1);
        check.due("P17 books(-1, 0)", x.books(-1, 0), -2);
        check.due("P17 books(4, 0)", x.books(4, 0), -2);
        for (int what : new int[] {-1, 4, 9, 11, 15, 16, Integer.MAX_VALUE, Integer.MIN_VALUE}) {
            check.due("P17 missing: books(0, " + what + ")", x.books(0, what), -2);
        }
        for (int what : new int[] {0, 1, 2, 3, 10}) {
            check.due("P17 missing: books(0, " + what + ")", x.books(0, what), -11);
            x.sheet(1, 0, 2);
            check.due("P17 too long: books(1, " + what + ")", x.books(1, what), -2);
            x.sheet(1, 0, 0);
            check.due("P17 too short: books(1, " + what + ")", x.books(1, what), -2);
        }
        BeforeItGoes y = new BeforeItGoes();
        y.sheet(3, 2, 0);
        int[] due = {0, 1023, 1023, 1};
        for (int what = 0; what < 4; what++) {
            check.due("P17 no WALLS: books(3, " + what + ")", y.books(3, what), due[what]);
        }
        check.due("P17 no WALLS: books(3, 10)", y.books(3, 10), -2);
        check.due("P18 no WALLS", y.warms(3), (1L << 41) - 1);
    }

    private static void books() {
        // on 0 .. 1 .. 2 .. 3; ripe in 21, 22, 23 by DIRT below 5, by AGE 2 and more, by WARM 10 .. 12, 40;
        // so by TEXTS 2 and 4, too; by TEXT 3 in 22, 23, 24; by TEXT 0 in 28 ..
        String rule = "ripens 20 + 9 * (4 < dirt or age < 2) + 5 * (warm < 10 or 12 < warm and warm < 40);";
        BeforeItGoes x = Check.ruled(rule + "takes 1;spoils 0;");
        Check.learn(x, "ripens 20;takes 1;spoils 0;");
        Check.learn(x, "ripens 21;takes 1;spoils 0;");
        Check.learn(x, "ripens 10 + 10;takes 1;spoils 999;");
        for (int i = 0; i < 3; i++) {
            x.wall(0, 0, 1);
        }
        x.set(0, 0, 11);
        x.set(1, 0, 3);
        x.set(2, 0, 4);
        Check.fill(x, 0, 0, 21, 22, 23);
        check.due("P17 all are so", x.books(0, 0), 0);
        check.due("P17 DIRTS", x.books(0, 1), 31);
        check.due("P17 AGES", x.books(0, 2), 1023 - 3);
        check.due("P17 TEXTS", x.books(0, 3), 2 + 4 + 16);
        check.due("P18 WARMS", x.warms(0), 1L << 10 | 1L << 11 | 1L << 12 | 1L << 40);
        check.due("P17 nothing has changed", x.count(1) * 100 + x.count(2) * 10 + x.count(3), 1134);
        check.due("P17 THE RULE stays", x.count(9), 1);
        // TEXTS by AGE as it is, though other AGES were tried just now
        x.set(1, 0, 1);
        check.due("P17 AGES", x.books(0, 2), 1023 - 3);
        check.due("P17 TEXTS by AGE 1", x.books(0, 3), 4 + 16);
        x.set(1, 0, 3);
        // by AGE 1 none is so; DIRTS then none, but AGES and TEXTS the same
        x.set(1, 0, 1);
        check.due("P17 none is so", x.books(0, 0), 7);
        check.due("P17 no DIRTS", x.books(0, 1), 0);
        check.due("P17 AGES", x.books(0, 2), 1023 - 3);
        check.due("P18 no WARMS", x.warms(0), 0);
        // one that is not so: all others are
        x.set(1, 0, 3);
        Check.fill(x, 1, 2, 21, 24, 23);
        check.due("P17 1 isn't so", x.books(1, 0), 2);
        check.due("P17 DIRTS of all", x.books(1, 1), 0);
        check.due("P17 AGES of all", x.books(1, 2), 0);
        check.due("P17 TEXTS of all", x.books(1, 3), 0);
        // bytes are from -128 on: 200 is another there
        BeforeItGoes y = Check.ruled("ripens 199;takes 1;spoils 0;");
        y.wall(0, 0, 1);
        Check.fill(y, 0, 0, 200);
        Check.fill(y, 1, 1, 200 + 65536);
        Check.fill(y, 2, 2, 200);
        check.due("P17 bytes", y.books(0, 0), 1);
        check.due("P17 shorts", y.books(1, 0), 0);
        check.due("P17 ints", y.books(2, 0), 0);
        // one that is never TROWELLED is so by NONE
        BeforeItGoes z = Check.ruled("ripens 240;takes 20;spoils 999;");
        for (int i = 0; i < 6; i++) {
            z.wall(5, 0, 20);
        }
        Check.fill(z, 0, 1, 1600, 2420, 3240, -1, -1, -1);
        check.due("P17 never TROWELLED", z.books(0, 0), 0);
        Check.fill(z, 0, 1, 1600, 2420, 3240, -1, -1, 0);
        check.due("P17 not so", z.books(0, 0), 32);
    }

    private static void kinds() {
        // on 0 .. 1, ripe in 21 as WALL, GLUED (WET); BRICK, WET, of 2: in 19; PAINTED in 25
        BeforeItGoes x = Check.ruled("ripens 20;takes 1;spoils 0;");
        x.wall(0, 2, 1);
        x.set(8, 0, 1);
        Check.fill(x, 0, 0, 21);
        check.due("P17 KINDS by 21", x.books(0, 10), 1 + 16);
        Check.fill(x, 0, 0, 19);
        check.due("P17 KINDS by 19", x.books(0, 10), 2);
        Check.fill(x, 0, 0, 25);
        check.due("P17 KINDS by 25", x.books(0, 10), 4);
        // HOT: on 0 .. 4, ripe in 9 more; CEILING: on 0 .. 2, in 20 more
        Check.fill(x, 0, 0, 13);
        check.due("P17 KINDS by 13", x.books(0, 10), 8);
        Check.fill(x, 0, 0, 22);
        check.due("P17 KINDS by 22", x.books(0, 10), 32);
        check.due("P17 KIND stays", x.told(0, 0), 0);
        // by which all would be so: as a CEILING, HOT 0 puts off 1
        x.set(8, 0, 0);
        x.set(6, 0, 0);
        x.wall(0, 0, 1);
        Check.fill(x, 0, 0, 21, 22);
        check.due("P17 KINDS of 0", x.books(0, 10), 1 + 2 + 4 + 16);
        check.due("P17 KINDS of 1", x.books(0, 11), 1 + 2 + 4 + 16);
        Check.fill(x, 0, 0, 22, 23);
        check.due("P17 KINDS of 0", x.books(0, 10), 32);
        check.due("P17 KINDS of 1", x.books(0, 11), 0);
        Check.fill(x, 0, 0, 21, 23);
        check.due("P17 KINDS of 0: 1 isn't so", x.books(0, 10), 0);
        check.due("P17 KINDS of 1", x.books(0, 11), 32);
        check.due("P17 KINDS of 2", x.books(0, 12), -2);
    }

    private static void warms() {
        BeforeItGoes x = new BeforeItGoes();
        x.wall(0, 0, 1);
        check.due("P18 warms(-1)", x.warms(-1), NO);
        check.due("P18 warms(4)", x.warms(4), NO);
        check.due("P18 missing", x.warms(0), NO);
        x.sheet(0, 0, 2);
        check.due("P18 too long", x.warms(0), NO);
        x.sheet(0, 0, 0);
        check.due("P18 too short", x.warms(0), NO);
        // on 0 .. 2, ripe in 62 less WARM
        Check.fill(x, 0, 0, 62);
        check.due("P18 0", x.warms(0), 1);
        Check.fill(x, 0, 0, 22);
        check.due("P18 40", x.warms(0), 1L << 40);
        Check.fill(x, 0, 0, 31);
        check.due("P18 31", x.warms(0), 1L << 31);
        Check.fill(x, 0, 0, 30);
        check.due("P18 32", x.warms(0), 1L << 32);
        Check.fill(x, 0, 0, 63);
        check.due("P18 none", x.warms(0), 0);
        check.due("P18 WARM stays", x.count(1), 18);
    }

    private static void film() {
        BeforeItGoes x = Check.ruled("ripens 240;takes 20;spoils 999;");
        check.due("P19 film(4)", x.film(4), -2);
        check.due("P19 film(-1)", x.film(-1), -2);
        check.due("P19 no WALLS", x.film(0), 0);
        check.due("P19 it is a row", x.cell(0, 0, 0), -12);
        for (int i = 0; i < 6; i++) {
            x.wall(5, 0, 20);
        }
        x.sheet(2, 0, 40);
        check.due("P19 film(2)", x.film(2), 6);
        check.due("P19 as told", x.books(2, 0), 0);
        check.due("P19 of 6", x.cell(2, 6, 0), -12);
        // of ints: it can be copied from and to them, and holds what no short does
        x.sheet(3, 2, 6);
        check.due("P19 of ints", x.copy(2, 0, 3, 0, 6), 6);
        check.due("P19 what it tells", x.books(3, 0), 0);
        Check.fill(x, 1, 1, 1600, 2420, 3240, -1, -1, -1);
        check.due("P19 the same by hand", x.books(1, 0), 0);
        x.sheet(1, 0, 6);
        check.due("P19 of no bytes", x.copy(2, 0, 1, 0, 6), -13);
        // truly: what comes later does not change it
        x.set(7, 0, 1);
        check.due("P19 another day", x.books(2, 0) != 0 ? 1 : 0, 1);
        // a short sheet grows: an order there is none any more
        BeforeItGoes y = new BeforeItGoes();
        y.wall(0, 0, 1);
        check.due("P19 of one that was missing", y.film(3), 1);
        check.due("P19 as told", y.books(3, 0), 0);
        check.due("P19 in minute 44", y.order(3, 0), -100000);
    }

    /** Seeds by which WARM is known: z is SEED * 1103515245 + 12345. */
    private static void drawn() {
        // BAD is 100 and WARM, by EAGER 1
        BeforeItGoes x = Check.ruled("ripens 20;takes 1;spoils 100 + warm;");
        x.wall(0, 0, 1);
        x.set(5, 0, 1);
        // 12345 by 512 is 24; 1103527590 by 512 is 2155327, modulo 41 39
        check.due("P20 drawn(0)", x.drawn(0), 124);
        check.due("P20 drawn(1)", x.drawn(1), 100 + 1103527590 / 512 % 41);
        // -1: -1103502900, as if 3191464396; by 512 it is 6233328
        check.due("P20 drawn(-1)", x.drawn(-1), 100 + (int) (3191464396L / 512 % 41));
        for (int seed : new int[] {2, 131, 286, 77, -99, 123456789, Integer.MAX_VALUE, Integer.MIN_VALUE}) {
            long z = (seed * 1103515245L + 12345) & 0xffffffffL;
            check.due("P20 drawn(" + seed + ")", x.drawn(seed), 100 + z / 512 % 41);
        }
        check.due("P20 WARM stays", x.count(1), 18);
        check.due("P20 no WALLS", new BeforeItGoes().drawn(5), 0);
    }

    private static void chance() {
        BeforeItGoes x = new BeforeItGoes();
        long[][] bad = {{0, 0}, {-1, 0}, {21, 0}, {1, -1}, {1, 2}};
        for (long[] b : bad) {
            check.due("P21 chance(0, " + b[0] + ", " + b[1] + ")", x.chance(0, (int) b[0], (int) b[1]), NO);
        }
        check.due("P21 no WALLS: above", x.chance(3, 20, 0), 1);
        check.due("P21 no WALLS: below", x.chance(3, 20, 1), 1);
        // 0 is LATE, if WARM is no less than 20
        BeforeItGoes y = Check.ruled("ripens 20 * (warm < 20);takes 1;spoils 0;");
        y.wall(0, 0, 1);
        y.wall(0, 0, 20);
        for (int seed : new int[] {0, 1, 2, 3, 500, -7, Integer.MAX_VALUE - 5, Integer.MIN_VALUE}) {
            for (int n = 1; n <= 20; n++) {
                oneChance(y, seed, n);
            }
        }
        // always LATE, never: 0 by 1, 1 by 1
        BeforeItGoes z = Check.ruled("ripens 1;takes 1;spoils 0;");
        z.wall(0, 0, 1);
        z.wall(0, 0, 20);
        check.due("P21 always LATE: above", z.chance(9, 20, 0), 0);
        check.due("P21 always LATE: below", z.chance(9, 20, 1), 1);
        // EARLY is not LATE
        BeforeItGoes u = Check.ruled("ripens 20;takes 1;spoils 9;");
        u.wall(0, 0, 1);
        u.set(5, 0, 9);
        check.due("P21 EARLY: above", u.chance(9, 7, 0), 1);
        check.due("P21 EARLY: below", u.chance(9, 7, 1), 1);
    }

    private static void oneChance(BeforeItGoes x, int seed, int n) {
        int fine = 0;
        for (int i = 0; i < n; i++) {
            long z = ((long) (seed + i) * 1103515245L + 12345) & 0xffffffffL;
            fine += z / 512 % 41 < 20 ? 1 : 0;
        }
        int divisor = n;
        while (fine % divisor != 0 || n % divisor != 0) {
            divisor--;
        }
        check.due("P21 chance(" + seed + ", " + n + ", 0)", x.chance(seed, n, 0), fine / divisor);
        check.due("P21 chance(" + seed + ", " + n + ", 1)", x.chance(seed, n, 1), n / divisor);
    }

    private static void image() {
        BeforeItGoes x = new BeforeItGoes();
        check.due("P23 there is none", x.back(), -3);
        Check.learn(x, "ripens 1;takes 1;spoils 1;");
        x.wall(2, 3, 4);
        x.wall(4, 5, 6);
        int[] first = {30, 1, 2, 2, 5, 6};
        for (int what = 0; what < 6; what++) {
            x.set(what, 0, first[what]);
        }
        x.set(8, 1, 1);
        check.due("P22 image()", x.image(), 2);
        for (int round = 0; round < 2; round++) {
            for (int what = 0; what < 6; what++) {
                x.set(what, 0, what == 3 ? 1 : 9);
            }
            x.set(6, 0, 9);
            x.set(7, 1, 9);
            x.set(8, 0, 1);
            x.set(8, 1, 0);
            x.force(1);
            check.due("P23 one more", x.wall(0, 1, 1), 2);
            Check.fill(x, 1, 0, 7);
            x.feed(97);
            check.due("P23 back()", x.back(), 2);
            for (int what = 0; what < 6; what++) {
                check.due("P23 count(" + (what + 1) + ")", x.count(what + 1), first[what]);
            }
            int[][] walls = {{2, 3, 4, 0}, {4, 5, 6, 1}};
            for (int what = 0; what < 4; what++) {
                check.due("P23 told(0, " + what + ")", x.told(0, what), walls[0][what]);
                check.due("P23 told(1, " + what + ")", x.told(1, what), walls[1][what]);
            }
            check.due("P23 WALLS that came go", x.told(2, 0), -2);
            check.due("P23 how many", x.count(0), 2);
            check.due("P23 THE RULE", x.count(9), 0);
            check.due("P23 the TEXTS stay", x.count(7), 2);
            check.due("P23 THE TAPE stays", x.count(8), round + 1);
            check.due("P23 SHEETS stay", x.cell(1, 0, 0), 1);
        }
        check.due("P23 a WALL that comes again is dry", x.told(x.wall(1, 1, 1), 3), 0);
        x.set(0, 0, 40);
        check.due("P22 a later image()", x.image(), 3);
        x.set(0, 0, 1);
        check.due("P23 back()", x.back(), 3);
        check.due("P23 as in the later one", x.count(1), 40);
        BeforeItGoes y = new BeforeItGoes();
        check.due("P22 no WALLS", y.image(), 0);
        y.wall(0, 0, 1);
        check.due("P23 no WALLS", y.back(), 0);
        check.due("P23 no WALLS", y.count(0), 0);
    }

    private static void count() {
        BeforeItGoes x = new BeforeItGoes();
        check.due("P24 count(-1)", x.count(-1), -2);
        check.due("P24 count(10)", x.count(10), -2);
        x.force(Check.learn(x, "ripens 1;takes 1;spoils 1;"));
        x.feed(1);
        x.feed(2);
        x.feed(3);
        for (int i = 0; i < 5; i++) {
            x.wall(0, 0, 1);
        }
        int[] dials = {31, 6, 7, 2, 48, 19};
        for (int what = 0; what < 6; what++) {
            x.set(what, 0, dials[what]);
        }
        int[] due = {5, 31, 6, 7, 2, 48, 19, 2, 3, 1};
        for (int what = 0; what < 10; what++) {
            check.due("P24 count(" + what + ")", x.count(what), due[what]);
        }
    }
}
