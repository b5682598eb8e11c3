/** Promises 1 to 4: a new object, set, wall, told. */
public final class PlasterTest {
    private static final Check check = new Check();

    public static void main(String[] args) {
        aNewObject();
        set();
        wall();
        told();
        check.end();
    }

    private static void aNewObject() {
        BeforeItGoes x = new BeforeItGoes();
        int[] counts = {0, 18, 0, 0, 1, 0, 0, 1, 0, 0};
        for (int what = 0; what < counts.length; what++) {
            check.due("P1 count(" + what + ")", x.count(what), counts[what]);
        }
        for (int what = 0; what <= 4; what++) {
            check.due("P1 day(" + what + ")", x.day(what), 0);
        }
        for (int sheet = 0; sheet < 4; sheet++) {
            check.due("P1 cell(" + sheet + ", 0, 0)", x.cell(sheet, 0, 0), -11);
        }
        check.due("P1 told(0, 0)", x.told(0, 0), -2);
        check.due("P1 back()", x.back(), -3);
        x.wall(0, 0, 1);
        check.due("P1 a second one has none", new BeforeItGoes().count(0), 0);
    }

    private static void set() {
        BeforeItGoes x = new BeforeItGoes();
        int[] first = {18, 0, 0, 1, 0, 0}, least = {0, 0, 0, 1, 0, 0, 0, 1, 0}, most = {40, 9, 9, 2, 60, 20, 9, 20, 1};
        for (int what = 0; what < 6; what++) {
            check.due("P2 most of " + what, x.set(what, 99, most[what]), first[what]);
            check.due("P2 above " + what, x.set(what, 0, most[what] + 1), -2);
            check.due("P2 below " + what, x.set(what, 0, least[what] - 1), -2);
            check.due("P2 kept " + what, x.count(what + 1), most[what]);
            check.due("P2 least of " + what, x.set(what, -1, least[what]), most[what]);
            check.due("P2 least of " + what + " stands", x.count(what + 1), least[what]);
        }
        x.wall(2, 4, 7);
        x.wall(1, 5, 8);
        int[] were = {5, 8, 0};
        for (int what = 6; what < 9; what++) {
            check.due("P2 no wall 2 for " + what, x.set(what, 2, 1), -2);
            check.due("P2 no wall -1 for " + what, x.set(what, -1, 1), -2);
            check.due("P2 above " + what, x.set(what, 1, most[what] + 1), -2);
            check.due("P2 below " + what, x.set(what, 1, least[what] - 1), -2);
            check.due("P2 most of " + what, x.set(what, 1, most[what]), were[what - 6]);
            check.due("P2 told then " + what, x.told(1, what - 5), most[what]);
            check.due("P2 least of " + what, x.set(what, 1, least[what]), most[what]);
            check.due("P2 told last " + what, x.told(1, what - 5), least[what]);
        }
        check.due("P2 the other's NUMBER", x.told(0, 1), 4);
        check.due("P2 the other's YARDS", x.told(0, 2), 7);
        check.due("P2 what 9", x.set(9, 0, 1), -2);
        check.due("P2 what -1", x.set(-1, 0, 1), -2);
    }

    private static void wall() {
        BeforeItGoes x = new BeforeItGoes();
        int[][] bad = {{-1, 0, 1}, {6, 0, 1}, {0, -1, 1}, {0, 10, 1}, {0, 0, 0}, {0, 0, 21}};
        for (int[] w : bad) {
            check.due("P3 wall(" + w[0] + ", " + w[1] + ", " + w[2] + ")", x.wall(w[0], w[1], w[2]), -2);
        }
        check.due("P3 none came", x.count(0), 0);
        for (int i = 0; i < 6; i++) {
            check.due("P3 wall " + i, x.wall(i, i == 5 ? 9 : i, i == 0 ? 20 : i), i);
            check.due("P3 not WET " + i, x.told(i, 3), 0);
        }
        check.due("P3 a seventh", x.wall(0, 0, 1), -4);
        check.due("P3 a bad seventh", x.wall(6, 0, 1), -2);
        check.due("P3 six", x.count(0), 6);
    }

    private static void told() {
        BeforeItGoes x = new BeforeItGoes();
        x.wall(4, 7, 13);
        x.set(8, 0, 1);
        int[] plain = {4, 7, 13, 1};
        for (int what = 0; what < 4; what++) {
            check.due("P4 told(0, " + what + ")", x.told(0, what), plain[what]);
        }
        check.due("P4 told(0, 7)", x.told(0, 7), -2);
        check.due("P4 told(0, -1)", x.told(0, -1), -2);
        check.due("P4 told(1, 0)", x.told(1, 0), -2);
        check.due("P4 told(1, 4)", x.told(1, 4), -2);
        check.due("P4 told(-1, 0)", x.told(-1, 0), -2);

        // THE RULE tells 42 and 2: KIND, NUMBER, YARDS, WET, then RIPENS, LASTS, TAKES
        kinds(new BeforeItGoes(), new int[][] {
            {0, 9, 6, 0, 42, 10, 12}, {0, 9, 6, 1, 42, 10, 12}, {1, 5, 6, 0, 27, 8, 12}, {1, 5, 6, 1, 37, 8, 12},
            {2, 5, 6, 0, 52, 10, 12}, {2, 5, 6, 1, 52, 10, 12}});
        kinds(new BeforeItGoes(), new int[][] {
            {3, 5, 6, 0, 13, 6, 15}, {3, 5, 6, 1, 18, 6, 15}, {4, 5, 6, 0, 52, 15, 12}, {4, 5, 6, 1, 42, 15, 12},
            {5, 5, 6, 0, 42, 10, 24}, {5, 5, 6, 1, 42, 10, 24}});
        // 1, the bound, though the text tells 60 - 18 - 45; 1 at least in the end, too
        kinds(Check.ruled("ripens 60 - warm - 45; takes 0 - 9; spoils 0;"), new int[][] {
            {0, 9, 6, 0, 1, 10, 6}, {1, 9, 6, 0, 1, 6, 6}, {1, 9, 6, 1, 1, 6, 6}, {2, 9, 6, 0, 19, 10, 6},
            {3, 9, 6, 0, 1, 4, 9}, {4, 9, 1, 1, 1, 15, 1}});
        // 240 and 20, the bounds
        kinds(Check.ruled("ripens 241; takes 21; spoils 0;"), new int[][] {
            {0, 9, 6, 0, 240, 10, 120}, {1, 9, 6, 0, 213, 6, 120}, {2, 9, 6, 0, 258, 10, 120},
            {3, 9, 6, 1, 115, 4, 123}, {4, 1, 1, 0, 242, 15, 20}, {5, 9, 20, 1, 240, 10, 800}});
        // a HOT one's half is cut: (5 - 6) by 2 is 0, (5 - 2) by 2 is 1
        kinds(Check.ruled("ripens 5; takes 1; spoils 0;"), new int[][] {
            {3, 2, 1, 0, 1, 7, 4}, {3, 2, 1, 1, 1, 7, 4}, {3, 0, 1, 0, 2, 8, 4}, {3, 1, 2, 1, 2, 8, 5}});

        BeforeItGoes y = new BeforeItGoes();
        y.wall(0, 0, 6);
        y.set(3, 0, 2);
        check.due("P4 TAKES by one pair", y.told(0, 6), 12);
        y.set(0, 0, 30);
        y.set(1, 0, 3);
        y.set(2, 0, 5);
        check.due("P4 by WARM, AGE, DIRT", y.told(0, 4), 60 - 30 - 20 - 6);
    }

    private static void kinds(BeforeItGoes x, int[][] rows) {
        for (int i = 0; i < rows.length; i++) {
            int[] row = rows[i];
            x.wall(row[0], row[1], row[2]);
            x.set(8, i, row[3]);
            for (int what = 4; what <= 6; what++) {
                String of = "P4 KIND " + row[0] + ", NUMBER " + row[1] + ", WET " + row[3];
                check.due(of + ": told " + what, x.told(i, what), row[what]);
            }
        }
    }
}
