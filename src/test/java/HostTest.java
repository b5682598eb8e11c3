/** Promises 25 to 29: sheet, cell, copy, walls, taken. */
public final class HostTest {
    private static final int FAR = Integer.MAX_VALUE, DEEP = Integer.MIN_VALUE;
    private static final Check check = new Check();

    public static void main(String[] args) {
        sheet();
        cell();
        copy();
        overlaps();
        walls();
        taken();
        check.end();
    }

    private static void sheet() {
        BeforeItGoes x = new BeforeItGoes();
        int[][] rows = {{-1, 0, 1, -2}, {4, 0, 1, -2}, {4, -1, 1, -2}, {0, -2, 1, -2}, {0, 3, 1, -2}, {0, 0, 41, -2},
            {0, 3, -1, -2}, {0, 0, -1, -14}, {0, 2, DEEP, -14}, {0, 2, FAR, -2}};
        for (int[] r : rows) {
            check.due("P25 sheet(" + r[0] + ", " + r[1] + ", " + r[2] + ")", x.sheet(r[0], r[1], r[2]), r[3]);
            check.due("P25 still missing", x.cell(0, 0, 0), -11);
        }
        for (int sort = 0; sort < 3; sort++) {
            check.due("P25 of 40", x.sheet(sort, sort, 40), 1);
            check.due("P25 the last", x.cell(sort, 39, 1), 1);
            check.due("P25 behind it", x.cell(sort, 40, 1), -12);
            check.due("P25 of 0", x.sheet(sort, sort, 0), 1);
            check.due("P25 it has none", x.cell(sort, 0, 1), -12);
            check.due("P25 of 3", x.sheet(sort, sort, 3), 1);
            check.due("P25 missing again, n does not matter", x.sheet(sort, -1, 99), 1);
            check.due("P25 missing", x.cell(sort, 0, 1), -11);
            check.due("P25 missing once more", x.sheet(sort, -1, -99), 1);
        }
        // all 0, also where other numbers stood: by 0, 0 each WALL is not told once, by 0 it is
        x.wall(0, 0, 1);
        x.sheet(3, 2, 1);
        check.due("P25 all 0", x.order(3, 0), 0);
        x.cell(3, 0, 5);
        check.due("P25 not 0", x.order(3, 0), -100000);
        x.sheet(3, 0, 1);
        check.due("P25 all 0 again", x.order(3, 0), 0);
    }

    private static void cell() {
        BeforeItGoes x = new BeforeItGoes();
        check.due("P26 cell(-1, 0, 0)", x.cell(-1, 0, 0), -2);
        check.due("P26 cell(4, 0, 0)", x.cell(4, 0, 0), -2);
        check.due("P26 missing", x.cell(3, -1, 0), -11);
        x.sheet(3, 0, 2);
        check.due("P26 outside", x.cell(3, -1, 0), -12);
        check.due("P26 outside", x.cell(3, 2, 0), -12);
        check.due("P26 outside", x.cell(3, FAR, 0), -12);
        // what it became is seen by an order of two WALLS: bytes, shorts by their lowest bits
        x.wall(0, 0, 1);
        x.wall(0, 0, 1);
        int[][] rows = {{0, 0, 1, 0}, {0, 256, 257, 0}, {0, -255, 512, 0}, {0, 1, 0x7fffff00, 0}, {1, 256, 1, -100000},
            {1, 65536, 65537, 0}, {1, -65535, 0, 0}, {2, 65536, 1, -100000}, {2, 1, 0, 0}, {0, 128, 1, -100000}};
        for (int[] r : rows) {
            x.sheet(0, r[0], 2);
            check.due("P26 cell(0, 0, " + r[1] + ")", x.cell(0, 0, r[1]), 1);
            check.due("P26 cell(0, 1, " + r[2] + ")", x.cell(0, 1, r[2]), 1);
            check.due("P26 of sort " + r[0] + ": " + r[1] + ", " + r[2], x.order(0, 0), r[3]);
        }
        // a short, an int from below 0 on: NONE of one that is never TROWELLED
        BeforeItGoes y = Check.ruled("ripens 240;takes 20;spoils 0;");
        for (int i = 0; i < 6; i++) {
            y.wall(5, 0, 20);
        }
        for (int sort = 0; sort < 3; sort++) {
            Check.fill(y, 0, sort, -1, -1, -1, -1, -1, -1);
            check.due("P26 -1 of sort " + sort, y.books(0, 0), 7);
        }
        Check.fill(y, 0, 0, 255, 255, 255, 255, 255, 255);
        check.due("P26 255 as a byte is -1", y.books(0, 0), 7);
        Check.fill(y, 0, 1, 65535, 65535, 65535, 65535, 65535, 65535);
        check.due("P26 65535 as a short is -1", y.books(0, 0), 7);
    }

    private static void copy() {
        BeforeItGoes x = new BeforeItGoes();
        Check.fill(x, 0, 0, 1, 2, 3, 4);
        x.sheet(1, 0, 3);
        x.sheet(2, 1, 4);
        int[][] rows = {{-1, 0, 1, 0, 1, -2}, {0, 0, 4, 0, 1, -2}, {4, 0, 3, 0, 1, -2}, {3, 0, -1, 0, 1, -2},
            {3, 0, 1, 0, 1, -11}, {0, 0, 3, 0, 1, -11}, {3, -1, 3, 9, -1, -11}, {0, 0, 2, 0, 1, -13}, {2, -1, 0, 0, -1, -13},
            {0, 0, 1, 0, 4, -12}, {0, 2, 1, 0, 3, -12}, {0, 0, 1, 1, 3, -12}, {0, -1, 1, 0, 1, -12}, {0, 0, 1, -1, 1, -12},
            {0, 0, 1, 0, -1, -12}, {0, 0, 1, 0, DEEP, -12}, {0, FAR, 1, 0, 1, -12}, {0, 0, 1, FAR, 1, -12},
            {0, 1, 1, 1, FAR, -12}, {0, FAR, 1, FAR, FAR, -12}, {0, 5, 1, 0, 0, -12}, {0, 0, 1, 4, 0, -12},
            {0, 4, 1, 3, 0, 0}, {0, 0, 1, 0, 0, 0}, {0, 1, 1, 0, 3, 3}};
        for (int[] r : rows) {
            String call = "P27 copy(" + r[0] + ", " + r[1] + ", " + r[2] + ", " + r[3] + ", " + r[4] + ")";
            check.due(call, x.copy(r[0], r[1], r[2], r[3], r[4]), r[5]);
        }
        // 1 holds 2, 3, 4 now: kind PAINTED, NUMBER 3, 4 YARDS
        check.due("P27 a WALL of these", x.walls(1, 0, 0, 1), 1);
        check.due("P27 as they were", x.told(0, 0) * 100 + x.told(0, 1) * 10 + x.told(0, 2), 234);
        check.due("P27 the first stays", x.walls(0, 0, 0, 1), 1);
        check.due("P27 the first stays", x.told(1, 0) * 100 + x.told(1, 1) * 10 + x.told(1, 2), 123);
        // numbers, not the row itself
        x.cell(0, 1, 5);
        x.walls(1, 0, 0, 1);
        check.due("P27 no more than numbers", x.told(2, 0), 2);
    }

    /** Of one and the same SHEET, the numbers that come are as they were ahead of it. */
    private static void overlaps() {
        BeforeItGoes x = new BeforeItGoes();
        Check.fill(x, 0, 2, 1, 2, 3, 4, 5, 6);
        check.due("P27 onwards", x.copy(0, 0, 0, 1, 5), 5);
        x.walls(0, 2, 0, 2);
        check.due("P27 1 1 2", x.told(0, 0) * 100 + x.told(0, 1) * 10 + x.told(0, 2), 112);
        check.due("P27 3 4 5", x.told(1, 0) * 100 + x.told(1, 1) * 10 + x.told(1, 2), 345);
        BeforeItGoes y = new BeforeItGoes();
        Check.fill(y, 0, 2, 1, 2, 3, 4, 5, 6);
        check.due("P27 backwards", y.copy(0, 1, 0, 0, 5), 5);
        y.walls(0, 2, 0, 2);
        check.due("P27 2 3 4", y.told(0, 0) * 100 + y.told(0, 1) * 10 + y.told(0, 2), 234);
        check.due("P27 5 6 6", y.told(1, 0) * 100 + y.told(1, 1) * 10 + y.told(1, 2), 566);
    }

    private static void walls() {
        BeforeItGoes x = new BeforeItGoes();
        Check.fill(x, 0, 1, 9, 1, 2, 3, 6, 2, 3, 4, 5, 6, 5, 0, 20, 0, 10);
        int[][] rows = {{-1, 1, 0, 1, -2}, {4, 1, 0, 1, -2}, {0, -1, 0, 1, -2}, {0, 3, 0, 1, -2}, {0, 1, 0, -1, -2},
            {0, 1, 0, 7, -2}, {3, -1, 0, 1, -2}, {3, 3, 0, 1, -2}, {0, 0, 1, 1, -13}, {0, 2, 99, 1, -13}, {0, 0, 1, 0, -13},
            {3, 0, 0, 1, -11}, {3, 2, 99, 0, -11}, {0, 1, 99, 0, 0}, {0, 1, -1, 0, 0}, {0, 1, -1, 1, -12}, {0, 1, 15, 1, -12},
            {0, 1, 13, 1, -12}, {0, 1, FAR, 1, -12}, {0, 1, FAR - 1, 2, -12}, {0, 1, DEEP, 6, -12}};
        for (int[] r : rows) {
            String call = "P28 walls(" + r[0] + ", " + r[1] + ", " + r[2] + ", " + r[3] + ")";
            check.due(call, x.walls(r[0], r[1], r[2], r[3]), r[4]);
            check.due(call + ": none came", x.count(0), 0);
        }
        // 1 2 3; 6 2 3 is left out; 4 5 6; 5 0 20; then outside
        check.due("P28 three of four", x.walls(0, 1, 1, 4), 3);
        check.due("P28 three", x.count(0), 3);
        int[][] due = {{1, 2, 3}, {4, 5, 6}, {5, 0, 20}};
        for (int i = 0; i < 3; i++) {
            for (int what = 0; what < 3; what++) {
                check.due("P28 told(" + i + ", " + what + ")", x.told(i, what), due[i][what]);
            }
        }
        check.due("P28 the fifth is outside", x.walls(0, 1, 1, 5), -12);
        check.due("P28 what stood ahead came", x.count(0), 6);
        check.due("P28 no more have room", x.walls(0, 1, 1, 4), 0);
        check.due("P28 outside, though none has room", x.walls(0, 1, 13, 1), -12);
        check.due("P28 six", x.count(0), 6);
        BeforeItGoes y = new BeforeItGoes();
        Check.fill(y, 3, 0, 0, 0, 1, 0, 0, 2, 0, 0, 3, 0, 0, 4, 0, 0, 5, 0, 0, 6);
        check.due("P28 six of six", y.walls(3, 0, 0, 6), 6);
        check.due("P28 the last one's YARDS", y.told(5, 2), 6);
    }

    private static void taken() {
        BeforeItGoes x = new BeforeItGoes();
        check.due("P29 no WALL, no KIND", x.taken(0, 6), -2);
        check.due("P29 no WALL", x.taken(0, 0), -11);
        int[][] as = {{0}, {0, 1}, {0, 2}, {0, 1, 3}, {0, 2, 4}, {0, 5}};
        for (int kind = 0; kind < 6; kind++) {
            x.wall(kind, kind + 3, 1);
            for (int k = 0; k < 6; k++) {
                int due = -13;
                for (int is : as[kind]) {
                    due = is == k ? kind + 3 : due;
                }
                check.due("P29 taken(" + kind + ", " + k + ")", x.taken(kind, k), due);
            }
            check.due("P29 taken(" + kind + ", -1)", x.taken(kind, -1), -2);
            check.due("P29 taken(" + kind + ", 6)", x.taken(kind, 6), -2);
        }
        check.due("P29 taken(6, 0)", x.taken(6, 0), -11);
        check.due("P29 taken(-1, 0)", x.taken(-1, 0), -11);
    }
}
