/** Promises 25 to 29: a test for each sentence of the document that names an edge. */
public final class EdgesHostTest {
    private static final int FAR = Integer.MAX_VALUE, DEEP = Integer.MIN_VALUE, BAD = -2;
    private static final int NOTHING = -11, OUTSIDE = -12, UNLIKE = -13, BELOW_NONE = -14;
    private static final Check check = new Check();

    public static void main(String[] args) {
        sheetsAndSorts();
        sizesOfSheets();
        missingAgain();
        allAreNone();
        itemsWithin();
        lowestBits();
        copiesWithin();
        copiesOfLikeSorts();
        copiesOntoItself();
        threeByThree();
        partOfAWall();
        leftOut();
        takenForASort();
        takenForAKind();
        takenOfNone();
        check.end();
    }

    /** Promise 25: "BAD: no such SHEET, sort"; Terms 3: "SHEETS 0 .. 3", "sort 0 bytes, 1 shorts, 2 ints". */
    private static void sheetsAndSorts() {
        int[] outside = {-2, -3, 3, 4, 5, FAR, DEEP};
        for (int sheet = -1; sheet <= 4; sheet++) {
            BeforeItGoes x = new BeforeItGoes();
            boolean is = sheet >= 0 && sheet <= 3;
            for (int sort = -1; sort <= 2; sort++) {
                check.due("P25 sheet(" + sheet + ", " + sort + ", 3)", x.sheet(sheet, sort, 3), is ? 1 : BAD);
                check.due("P26 its item", x.cell(sheet, 2, 1), is ? sort < 0 ? NOTHING : 1 : BAD);
            }
            for (int sort : outside) {
                check.due("P25 sheet(" + sheet + ", " + sort + ", 3)", x.sheet(sheet, sort, 3), BAD);
                check.due("P25 it is as it was", x.cell(sheet, 2, 1), is ? 1 : BAD);
            }
        }
        BeforeItGoes x = new BeforeItGoes();
        for (int sheet : new int[] {FAR, DEEP}) {
            check.due("P25 sheet(" + sheet + ", 0, 3)", x.sheet(sheet, 0, 3), BAD);
            check.due("P25 sheet(" + sheet + ", -1, 3)", x.sheet(sheet, -1, 3), BAD);
        }
    }

    /** Promise 25: "n above 40; -14". */
    private static void sizesOfSheets() {
        for (int sort = 0; sort < 3; sort++) {
            BeforeItGoes x = new BeforeItGoes();
            for (int n = 0; n <= 40; n++) {
                check.due("P25 of " + n, x.sheet(3, sort, n), 1);
                check.due("P26 the last of " + n, x.cell(3, n - 1, 1), n > 0 ? 1 : OUTSIDE);
                check.due("P26 behind the last of " + n, x.cell(3, n, 1), OUTSIDE);
            }
            for (int n : new int[] {41, 42, 1000, FAR}) {
                check.due("P25 of " + n, x.sheet(3, sort, n), BAD);
            }
            for (int n : new int[] {-1, -2, -40, DEEP}) {
                check.due("P25 of " + n, x.sheet(3, sort, n), BELOW_NONE);
            }
            check.due("P25 still of 40", x.cell(3, 39, 1), 1);
        }
    }

    /** Promise 25: "or missing (sort -1: n does not matter)". */
    private static void missingAgain() {
        for (int n : new int[] {0, 1, -1, 40, 41, FAR, DEEP}) {
            BeforeItGoes x = new BeforeItGoes();
            check.due("P25 one that is missing", x.sheet(2, -1, n), 1);
            check.due("P25 it is missing", x.cell(2, 0, 1), NOTHING);
            x.sheet(2, 2, 5);
            check.due("P25 one that is a row", x.sheet(2, -1, n), 1);
            check.due("P25 it is missing", x.cell(2, 0, 1), NOTHING);
            x.sheet(2, 1, 1);
            check.due("P25 it is a row again, of shorts", x.walls(2, 1, 0, 0), 0);
        }
    }

    /** Promise 25: "all 0", also where other numbers stood, be it in a longer row. */
    private static void allAreNone() {
        for (int sort = 0; sort < 3; sort++) {
            BeforeItGoes x = new BeforeItGoes();
            x.image();
            for (int i = 0; i < 2; i++) {
                x.sheet(0, sort, 40);
                for (int at = 0; at < 40; at++) {
                    x.cell(0, at, 5);
                }
            }
            x.sheet(0, sort, 3);
            x.sheet(0, sort, 40);
            Check.fill(x, 1, sort, 5, 5, 5);
            for (int at = 0; at < 40; at++) {
                x.copy(0, at, 1, 1, 1);
                check.due("P28 a WALL by item " + at, x.walls(1, sort, 0, 1), 1);
                check.due("P25 item " + at + " is 0", x.told(0, 1), 0);
                x.back();
                x.cell(1, 1, 5);
            }
        }
    }

    /** Promise 26: "BAD: no such SHEET; -11; -12". */
    private static void itemsWithin() {
        for (int n : new int[] {0, 1, 7, 40}) {
            BeforeItGoes x = new BeforeItGoes();
            x.sheet(0, 1, n);
            for (int i = -2; i <= 42; i++) {
                check.due("P26 of " + n + ": cell(0, " + i + ", 9)", x.cell(0, i, 9), i >= 0 && i < n ? 1 : OUTSIDE);
                check.due("P26 missing: cell(1, " + i + ", 9)", x.cell(1, i, 9), NOTHING);
                check.due("P26 none such: cell(4, " + i + ", 9)", x.cell(4, i, 9), BAD);
                check.due("P26 none such: cell(-1, " + i + ", 9)", x.cell(-1, i, 9), BAD);
            }
            check.due("P26 far", x.cell(0, FAR, 9), OUTSIDE);
            check.due("P26 deep", x.cell(0, DEEP, 9), OUTSIDE);
            check.due("P26 a far SHEET", x.cell(FAR, 0, 9), BAD);
            check.due("P26 a deep SHEET", x.cell(DEEP, 0, 9), BAD);
        }
    }

    /** Promise 26: "(of bytes, shorts its lowest 8, 16 bits)": seen as a WALL's NUMBER. */
    private static void lowestBits() {
        int[] vs = {7, 256 + 7, 65536 + 7, 7 - 256, 7 - 65536, 7 + 128, DEEP + 7, FAR - 255 + 7, FAR - 65535 + 7, 7 - 128, -1, FAR};
        for (int sort = 0; sort < 3; sort++) {
            for (int v : vs) {
                BeforeItGoes x = new BeforeItGoes();
                Check.fill(x, 0, sort, 3, 1, 3);
                check.due("P26 cell(0, 1, " + v + ")", x.cell(0, 1, v), 1);
                int bits = sort == 0 ? v & 0xff : sort == 1 ? v & 0xffff : v;
                check.due("P28 of sort " + sort + ", " + v, x.walls(0, sort, 0, 1), bits == 7 ? 1 : 0);
                check.due("P26 it is 7", x.told(0, 1), bits == 7 ? 7 : BAD);
                // the items beside it are as they were
                x.cell(0, 1, 4);
                x.walls(0, sort, 0, 1);
                int last = x.count(0) - 1;
                check.due("P26 beside it", x.told(last, 0) * 100 + x.told(last, 1) * 10 + x.told(last, 2), 343);
            }
        }
    }

    /** Promise 27: "-12 (also with n below 0)": all places, all sizes of small SHEETS. */
    private static void copiesWithin() {
        for (int from = 0; from <= 3; from++) {
            for (int to = 0; to <= 3; to++) {
                for (int n = -1; n <= 4; n++) {
                    BeforeItGoes x = new BeforeItGoes();
                    x.sheet(0, 1, from);
                    x.sheet(3, 1, to);
                    for (int i = -1; i <= 4; i++) {
                        for (int j = -1; j <= 4; j++) {
                            boolean is = n >= 0 && i >= 0 && j >= 0 && i + n <= from && j + n <= to;
                            String call = "P27 copy(0, " + i + ", 3, " + j + ", " + n + ") of " + from + ", " + to;
                            check.due(call, x.copy(0, i, 3, j, n), is ? n : OUTSIDE);
                        }
                    }
                }
            }
        }
        BeforeItGoes x = new BeforeItGoes();
        x.sheet(0, 2, 40);
        x.sheet(1, 2, 40);
        check.due("P27 all 40", x.copy(0, 0, 1, 0, 40), 40);
        check.due("P27 41", x.copy(0, 0, 1, 0, 41), OUTSIDE);
        int[][] far = {{FAR, 0, 1}, {0, FAR, 1}, {1, 1, FAR}, {FAR, FAR, FAR}, {FAR, 0, 0}, {0, FAR, 0}, {DEEP, 0, 1},
            {0, DEEP, 1}, {0, 0, DEEP}, {DEEP, DEEP, DEEP}, {FAR, FAR, 2}, {40, 0, 1}, {0, 40, 1}};
        for (int[] f : far) {
            check.due("P27 copy(0, " + f[0] + ", 1, " + f[1] + ", " + f[2] + ")", x.copy(0, f[0], 1, f[1], f[2]), OUTSIDE);
        }
    }

    /** Promise 27: "BAD: no such SHEET; -11; -13: they are of unlike sorts". */
    private static void copiesOfLikeSorts() {
        for (int one = -1; one < 3; one++) {
            for (int other = -1; other < 3; other++) {
                BeforeItGoes x = new BeforeItGoes();
                x.sheet(1, one, 2);
                x.sheet(2, other, 2);
                boolean missing = one < 0 || other < 0;
                for (int n : new int[] {0, 1, 2, 3, -1}) {
                    int due = missing ? NOTHING : one != other ? UNLIKE : n < 0 || n > 2 ? OUTSIDE : n;
                    check.due("P27 of " + n + ", sorts " + one + ", " + other, x.copy(1, 0, 2, 0, n), due);
                    for (int none : new int[] {-1, 4, FAR, DEEP}) {
                        check.due("P27 to none", x.copy(1, 0, none, 0, n), BAD);
                        check.due("P27 from none", x.copy(none, 0, 2, 0, n), BAD);
                        check.due("P27 from none to none", x.copy(none, 0, none, 0, n), BAD);
                    }
                }
            }
        }
    }

    /** Promise 27: "(as they were)": of one and the same SHEET, by all places and sizes. */
    private static void copiesOntoItself() {
        int[] first = {1, 2, 3, 4, 5, 1};
        for (int i = 0; i <= 6; i++) {
            for (int j = 0; j <= 6; j++) {
                for (int n = 0; n <= 6 - Math.max(i, j); n++) {
                    BeforeItGoes x = new BeforeItGoes();
                    Check.fill(x, 2, 0, first);
                    check.due("P27 copy(2, " + i + ", 2, " + j + ", " + n + ")", x.copy(2, i, 2, j, n), n);
                    check.due("P28 two WALLS of these", x.walls(2, 0, 0, 2), 2);
                    for (int at = 0; at < 6; at++) {
                        int due = at >= j && at < j + n ? first[at - j + i] : first[at];
                        String of = "P27 item " + at + " behind copy(2, " + i + ", 2, " + j + ", " + n + ")";
                        check.due(of, x.told(at / 3, at % 3), due);
                    }
                }
            }
        }
    }

    /** Promise 28: "from one on, three by three .., n of them (0 .. 6)"; "-12: what stood ahead came". */
    private static void threeByThree() {
        for (int size = 0; size <= 20; size++) {
            BeforeItGoes x = new BeforeItGoes();
            x.image();
            x.sheet(0, 0, size);
            for (int i = 0; i < size; i++) {
                x.cell(0, i, 1 + i % 5);
            }
            for (int n = 0; n <= 6; n += size % 2 + 1) {
                for (int from = -3; from <= size + 1; from += 2) {
                    int ahead = 0;
                    while (ahead < n && from >= 0 && from + 3 * ahead + 2 < size) {
                        ahead++;
                    }
                    String call = "P28 of " + size + ": walls(0, 0, " + from + ", " + n + ")";
                    check.due(call, x.walls(0, 0, from, n), ahead == n ? n : OUTSIDE);
                    check.due(call + ": what stood ahead", x.count(0), ahead);
                    if (ahead > 0) {
                        int at = from + 3 * (ahead - 1);
                        check.due(call + ": the last", x.told(ahead - 1, 2), 1 + (at + 2) % 5);
                    }
                    x.back();
                }
            }
        }
    }

    /** A WALL whose KIND or NUMBER still stands in the SHEET, but not all three, is outside: nothing of it comes. */
    private static void partOfAWall() {
        for (int size = 3; size <= 6; size++) {
            BeforeItGoes x = new BeforeItGoes();
            x.sheet(1, 2, size);
            for (int i = 0; i < size; i++) {
                x.cell(1, i, 2);
            }
            check.due("P28 two of " + size, x.walls(1, 2, 0, 2), size < 6 ? OUTSIDE : 2);
            check.due("P28 came of " + size, x.count(0), size < 6 ? 1 : 2);
        }
        BeforeItGoes x = new BeforeItGoes();
        Check.fill(x, 1, 2, 1, 2, 3);
        for (int from : new int[] {-1, -2, -3, -4, 1, 2, 3, 4, FAR, FAR - 1, FAR - 2, FAR - 3, DEEP, DEEP + 1}) {
            for (int n = 0; n <= 6; n += 3) {
                check.due("P28 walls(1, 2, " + from + ", " + n + ")", x.walls(1, 2, from, n), n == 0 ? 0 : OUTSIDE);
            }
        }
        check.due("P28 none came", x.count(0), 0);
    }

    /** Promise 28: "how many came (others are left out)": those that wall() refuses, by BAD, by FULL. */
    private static void leftOut() {
        int[][] bad = {{-1, 1, 1}, {6, 1, 1}, {1, -1, 1}, {1, 10, 1}, {1, 1, 0}, {1, 1, 21}};
        for (int[] b : bad) {
            for (int at = 0; at < 3; at++) {
                BeforeItGoes x = new BeforeItGoes();
                x.sheet(0, 1, 9);
                for (int i = 0; i < 9; i++) {
                    x.cell(0, i, i / 3 == at ? b[i % 3] : 1 + i / 3);
                }
                check.due("P28 two of three", x.walls(0, 1, 0, 3), 2);
                check.due("P28 the first", x.told(0, 0), at == 0 ? 2 : 1);
                check.due("P28 the second", x.told(1, 0), at == 2 ? 2 : 3);
                check.due("P28 no third", x.told(2, 0), BAD);
            }
        }
        for (int stand = 0; stand <= 6; stand++) {
            BeforeItGoes x = new BeforeItGoes();
            for (int i = 0; i < stand; i++) {
                x.wall(0, 0, 1);
            }
            x.sheet(0, 0, 20);
            for (int i = 0; i < 20; i++) {
                x.cell(0, i, 2);
            }
            check.due("P28 as many as have room beside " + stand, x.walls(0, 0, 0, 6), 6 - stand);
            check.due("P28 six", x.count(0), 6);
            check.due("P28 none has room", x.walls(0, 0, 0, 6), 0);
            check.due("P28 none has room, the last is outside", x.walls(0, 0, 3, 6), OUTSIDE);
        }
    }

    /** Promise 28: "BAD: no such SHEET, sort, n; -13; -11". */
    private static void takenForASort() {
        for (int is = -1; is < 3; is++) {
            BeforeItGoes x = new BeforeItGoes();
            x.sheet(2, is, 3);
            for (int sort = -2; sort <= 4; sort++) {
                for (int n = -1; n <= 7; n++) {
                    boolean bad = sort < 0 || sort > 2 || n < 0 || n > 6;
                    int none = bad ? BAD : is < 0 ? NOTHING : sort != is ? UNLIKE : n == 0 ? 0 : OUTSIDE;
                    check.due("P28 of sort " + is + ": walls(2, " + sort + ", 1, " + n + ")", x.walls(2, sort, 1, n), none);
                }
                for (int sheet : new int[] {-1, 4, FAR, DEEP}) {
                    check.due("P28 walls(" + sheet + ", " + sort + ", 0, 1)", x.walls(sheet, sort, 0, 1), BAD);
                }
            }
            for (int far : new int[] {FAR, DEEP}) {
                check.due("P28 walls(2, " + far + ", 0, 1)", x.walls(2, far, 0, 1), BAD);
                check.due("P28 walls(2, 0, 0, " + far + ")", x.walls(2, 0, 0, far), BAD);
            }
            check.due("P28 none came", x.count(0), 0);
        }
    }

    /** Promise 29: "or one under that one (also by others between)". */
    private static void takenForAKind() {
        String[] as = {"0", "01", "02", "013", "024", "05"};
        for (int kind = 0; kind < 6; kind++) {
            for (int number = 0; number <= 9; number += 9) {
                BeforeItGoes x = new BeforeItGoes();
                x.wall(kind, number, 1);
                for (int k = 0; k < 6; k++) {
                    int due = as[kind].indexOf('0' + k) >= 0 ? number : UNLIKE;
                    check.due("P29 KIND " + kind + " taken for " + k, x.taken(0, k), due);
                }
            }
        }
    }

    /** Promise 29: "BAD: k; -11: no such WALL; -13". */
    private static void takenOfNone() {
        for (int walls = 0; walls <= 6; walls++) {
            BeforeItGoes x = new BeforeItGoes();
            for (int i = 0; i < walls; i++) {
                x.wall(0, i, 1);
            }
            for (int wall : new int[] {-1, walls, 6, FAR, DEEP}) {
                for (int k = 0; k < 6; k++) {
                    check.due("P29 of " + walls + ": taken(" + wall + ", " + k + ")", x.taken(wall, k), NOTHING);
                }
                for (int k : new int[] {-1, 6, FAR, DEEP}) {
                    check.due("P29 of " + walls + ": taken(" + wall + ", " + k + ")", x.taken(wall, k), BAD);
                    check.due("P29 of " + walls + ": taken(0, " + k + ")", x.taken(0, k), BAD);
                }
            }
            for (int wall = 0; wall < walls; wall++) {
                check.due("P29 the NUMBER of " + wall, x.taken(wall, 0), wall);
                check.due("P29 no BRICK", x.taken(wall, 1), UNLIKE);
            }
        }
    }
}
