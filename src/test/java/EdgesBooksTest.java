/** Promises 17 to 24: a test for each sentence of the document that names an edge. */
public final class EdgesBooksTest {
    private static final int FAR = Integer.MAX_VALUE, DEEP = Integer.MIN_VALUE, BAD = -2, STATE = -3, NOTHING = -11;
    private static final long NO = -4611686018427387904L;
    private static final Check check = new Check();

    public static void main(String[] args) {
        sheetsThatAreNone();
        whats();
        sizes();
        noWalls();
        whoIsNotSo();
        warmsBitByBit();
        dirtsAndAgesBitByBit();
        textsBitByBit();
        kindsBitByBit();
        allTogether();
        signs();
        filmOfNone();
        filmOfEach();
        filmOfNever();
        filmStays();
        seedsWrap();
        seedsByTheLine();
        howManySeeds();
        lowestTerms();
        seedsOneMore();
        noImage();
        imageOfNone();
        imageKeeps();
        imageKeepsNoMore();
        counts();
        nothingIsChanged();
        check.end();
    }

    /** Promise 17: "BAD: SHEET"; "-11"; promise 18: "NO: SHEET; it is missing"; promise 19: "BAD". */
    private static void sheetsThatAreNone() {
        BeforeItGoes x = new BeforeItGoes();
        x.wall(0, 0, 1);
        for (int sheet : new int[] {-1, 4, 5, FAR, DEEP}) {
            for (int what : new int[] {0, 1, 2, 3, 10}) {
                check.due("P17 books(" + sheet + ", " + what + ")", x.books(sheet, what), BAD);
            }
            check.due("P18 warms(" + sheet + ")", x.warms(sheet), NO);
            check.due("P19 film(" + sheet + ")", x.film(sheet), BAD);
        }
        for (int sheet = 0; sheet < 4; sheet++) {
            for (int what : new int[] {0, 1, 2, 3, 10}) {
                check.due("P17 missing: books(" + sheet + ", " + what + ")", x.books(sheet, what), NOTHING);
            }
            check.due("P18 missing: warms(" + sheet + ")", x.warms(sheet), NO);
        }
    }

    /** Promise 17: "BAD: .. what, no such WALL": ahead of -11 and of the size. */
    private static void whats() {
        for (int walls = 0; walls <= 6; walls++) {
            BeforeItGoes x = new BeforeItGoes();
            for (int i = 0; i < walls; i++) {
                x.wall(0, 0, 1);
            }
            x.sheet(1, 0, walls);
            x.sheet(2, 0, walls + 1);
            for (int what = -2; what <= 21; what++) {
                boolean is = what >= 0 && what <= 3 || what >= 10 && what < 10 + walls;
                check.due("P17 of " + walls + ", missing: " + what, x.books(0, what), is ? NOTHING : BAD);
                check.due("P17 of " + walls + ", as many: " + what, x.books(1, what) >= 0 ? 1 : 0, is ? 1 : 0);
                check.due("P17 of " + walls + ", one more: " + what, x.books(2, what), BAD);
            }
            for (int what : new int[] {FAR, DEEP, DEEP + 9}) {
                check.due("P17 of " + walls + ": " + what, x.books(1, what), BAD);
            }
        }
    }

    /** Promises 17, 18: "its size isn't how many WALLS there are". */
    private static void sizes() {
        for (int walls = 0; walls <= 6; walls++) {
            BeforeItGoes x = Check.ruled("ripens 9;takes 1;spoils 0;");
            for (int i = 0; i < walls; i++) {
                x.wall(0, 0, 1);
            }
            for (int size : new int[] {0, 1, 2, 3, 4, 5, 6, 7, 40}) {
                x.sheet(0, size % 3, size);
                check.due("P17 of " + walls + ", " + size + " told", x.books(0, 0), size == walls ? (1 << walls) - 1 : BAD);
                check.due("P17 of " + walls + ", " + size + " told", x.books(0, 3) == BAD ? 1 : 0, size == walls ? 0 : 1);
                check.due("P18 of " + walls + ", " + size + " told", x.warms(0) == NO ? 1 : 0, size == walls ? 0 : 1);
            }
        }
    }

    /** None tells of none: all are so, by all. */
    private static void noWalls() {
        BeforeItGoes x = new BeforeItGoes();
        x.sheet(0, 0, 0);
        int[] due = {0, 1023, 1023, 1};
        for (int texts = 1; texts <= 6; texts++) {
            for (int what = 0; what < 4; what++) {
                check.due("P17 books(0, " + what + ")", x.books(0, what), what == 3 ? (1 << texts) - 1 : due[what]);
            }
            check.due("P18 warms(0)", x.warms(0), (1L << 41) - 1);
            Check.learn(x, "ripens 1;takes 1;spoils 1;");
        }
    }

    /** Promise 17: "who isn't so (what 0)", bits of six: on 0 .. 6, trowelled 21 .. 26. */
    private static void whoIsNotSo() {
        BeforeItGoes x = Check.ruled("ripens 20;takes 1;spoils 0;");
        for (int i = 0; i < 6; i++) {
            x.wall(0, 0, 1);
        }
        x.sheet(0, 0, 6);
        for (int bits = 0; bits < 64; bits++) {
            for (int i = 0; i < 6; i++) {
                x.cell(0, i, 21 + i + (bits >> i & 1) * (i % 2 == 0 ? 1 : -1));
            }
            check.due("P17 who isn't so: " + bits, x.books(0, 0), bits);
        }
    }

    /** A SHEET tells of one WALL that was TROWELLED in a minute. */
    private static BeforeItGoes told(BeforeItGoes x, int minute) {
        Check.fill(x, 0, 2, minute);
        return x;
    }

    /** Terms 2: "WARMS (bits 0 .. 40)": on 0 .. 1, RIPE in 21 and WARM. */
    private static void warmsBitByBit() {
        BeforeItGoes x = Check.ruled("ripens 20 + warm;takes 1;spoils 0;");
        x.wall(0, 0, 1);
        for (int warm = -1; warm <= 41; warm++) {
            long due = warm < 0 || warm > 40 ? 0 : 1L << warm;
            check.due("P18 warms of " + warm, told(x, 21 + warm).warms(0), due);
        }
        BeforeItGoes y = Check.ruled("ripens 20 + (warm < 40);takes 1;spoils 0;");
        y.wall(0, 0, 1);
        check.due("P18 all but 40", told(y, 22).warms(0), (1L << 40) - 1);
        check.due("P18 40 alone", told(y, 21).warms(0), 1L << 40);
    }

    /** Terms 2: "DIRTS (bits 0 .. 9), AGES (bits 0 .. 9)", the other as it is. */
    private static void dirtsAndAgesBitByBit() {
        BeforeItGoes x = Check.ruled("ripens 20 + dirt + age * 10;takes 1;spoils 0;");
        x.wall(0, 0, 1);
        x.set(1, 0, 4);
        x.set(2, 0, 7);
        for (int i = -1; i <= 10; i++) {
            int due = i < 0 || i > 9 ? 0 : 1 << i;
            check.due("P17 DIRTS of " + i, told(x, 21 + 40 + i).books(0, 1), due);
            check.due("P17 AGES of " + i, told(x, 21 + 7 + 10 * i).books(0, 2), due);
        }
        check.due("P17 DIRT stays", x.count(3), 7);
        check.due("P17 AGE stays", x.count(2), 4);
    }

    /** Terms 2: "TEXTS (bits), were they THE RULE": of six the first and the last, of two no third. */
    private static void textsBitByBit() {
        BeforeItGoes x = new BeforeItGoes();
        x.wall(0, 0, 1);
        x.set(0, 0, 40);
        // by TEXT 0 in 19 and 2; by TEXT n in 9 and n
        for (int text = 1; text < 6; text++) {
            check.due("P17 none there of TEXT " + text, told(x, 9 + text).books(0, 3), 0);
            Check.learn(x, "ripens " + (8 + text) + ";takes 1;spoils 0;");
            check.due("P17 TEXTS of " + text, told(x, 9 + text).books(0, 3), 1 << text);
            check.due("P17 TEXTS of 0", told(x, 22).books(0, 3), 1);
            check.due("P17 THE RULE stays", x.count(9), 0);
        }
        check.due("P17 of no TEXT", told(x, 21).books(0, 3), 0);
    }

    /** Terms 2: "KINDS (bits 0 .. 5) of one": RIPE in another minute by each KIND. */
    private static void kindsBitByBit() {
        // WALL, CEILING on 0 .. 1, 0 .. 2; BRICK 9 less, PAINTED 6 more, HOT on 0 .. 4, GLUED as PAINTED
        int[] minutes = {41, 32, 47, 19, 47, 42}, due = {1, 2, 4 + 16, 8, 4 + 16, 32};
        for (int kind = 0; kind < 6; kind++) {
            BeforeItGoes x = Check.ruled("ripens 40;takes 1;spoils 0;");
            x.wall(kind, 3, 1);
            for (int other = 0; other < 6; other++) {
                check.due("P17 KINDS of " + kind + " by " + minutes[other], told(x, minutes[other]).books(0, 10), due[other]);
            }
            check.due("P17 KINDS by none", told(x, 40).books(0, 10), 0);
            check.due("P17 KIND stays", x.told(0, 0), kind);
            check.due("P17 it is so", told(x, minutes[kind]).books(0, 0), 0);
        }
    }

    /** "by which all would be so": one that isn't so is enough, be it the last. */
    private static void allTogether() {
        BeforeItGoes x = Check.ruled("ripens 20;takes 1;spoils 0;");
        for (int i = 0; i < 6; i++) {
            x.wall(0, 0, 1);
        }
        int[] due = {0, 1023, 1023, 2};
        for (int wrong = -1; wrong < 6; wrong++) {
            for (int i = 0; i < 6 && wrong < 0; i++) {
                Check.fill(x, 0, 1, 21, 22, 23, 24, 25, 26);
            }
            if (wrong >= 0) {
                x.cell(0, wrong, 20);
            }
            for (int what = 1; what < 4; what++) {
                check.due("P17 books(0, " + what + "), " + wrong, x.books(0, what), wrong < 0 ? due[what] : 0);
            }
            check.due("P17 KINDS of 5, " + wrong, x.books(0, 15), wrong < 0 ? 23 : 0);
            check.due("P18 WARMS, " + wrong, x.warms(0), wrong < 0 ? (1L << 41) - 1 : 0);
            if (wrong >= 0) {
                x.cell(0, wrong, 21 + wrong);
            }
        }
    }

    /** Terms 3: bytes and shorts keep what their bits hold, below 0, too; so 128 and 40000 are not what they were. */
    private static void signs() {
        BeforeItGoes x = Check.ruled("ripens 126 + age;takes 1;spoils 0;");
        x.wall(0, 0, 1);
        int[] sorts = {0, 1, 2};
        for (int sort : sorts) {
            Check.fill(x, sort, sort, 127);
            check.due("P26 127 of sort " + sort, x.books(sort, 0), 0);
            Check.fill(x, sort, sort, 127 + 256);
            check.due("P26 127 and 256 of sort " + sort, x.books(sort, 0), sort == 0 ? 0 : 1);
            Check.fill(x, sort, sort, 127 + 65536);
            check.due("P26 127 and 65536 of sort " + sort, x.books(sort, 0), sort == 2 ? 1 : 0);
        }
        x.set(1, 0, 1);
        for (int sort : sorts) {
            Check.fill(x, sort, sort, 128);
            check.due("P26 128 of sort " + sort, x.books(sort, 0), sort == 0 ? 1 : 0);
        }
        // 0 .. 2 are TROWELLED in 1600, 2420, 3240, the others never
        BeforeItGoes y = Check.ruled("ripens 240;takes 20;spoils 0;");
        for (int i = 0; i < 6; i++) {
            y.wall(5, 0, 20);
        }
        for (int sort : sorts) {
            Check.fill(y, sort, sort, 1600, 2420, 3240, -1, -1, -1);
            check.due("P17 NONE of sort " + sort, y.books(sort, 0), sort == 0 ? 7 : 0);
            Check.fill(y, sort, sort, 1600, 2420, 3240, 255, 65535, 255);
            check.due("P17 255, 65535 of sort " + sort, y.books(sort, 0), sort == 0 ? 7 : sort == 1 ? 8 + 32 : 56);
        }
    }

    /** Promise 19: of no WALLS a row of none, no missing SHEET. */
    private static void filmOfNone() {
        for (int sheet = 0; sheet < 4; sheet++) {
            BeforeItGoes x = new BeforeItGoes();
            check.due("P19 film(" + sheet + ")", x.film(sheet), 0);
            check.due("P19 a row", x.cell(sheet, 0, 0), -12);
            check.due("P19 of none", x.order(sheet, 0), 0);
            check.due("P19 of ints", x.walls(sheet, 2, 0, 0), 0);
            x.sheet(sheet, 0, 40);
            check.due("P19 of 40 bytes before", x.film(sheet), 0);
            check.due("P19 of none", x.cell(sheet, 0, 0), -12);
        }
    }

    /** Promise 19: "(PLAIN; ints ..): how many", whatever the SHEET was. */
    private static void filmOfEach() {
        for (int walls = 1; walls <= 6; walls++) {
            BeforeItGoes x = Check.ruled("ripens 200;takes 1;spoils 0;");
            for (int i = 0; i < walls; i++) {
                x.wall(0, 0, 1);
            }
            for (int sort = -1; sort < 3; sort++) {
                x.sheet(1, sort, 40);
                check.due("P19 film(1) of " + walls, x.film(1), walls);
                check.due("P19 the last", x.copy(1, walls - 1, 1, walls - 1, 1), 1);
                check.due("P19 no more", x.copy(1, walls, 1, walls, 1), -12);
                check.due("P19 ints", x.walls(1, 2, 0, 0), 0);
                check.due("P19 no bytes", x.walls(1, 0, 0, 0), -13);
                check.due("P19 no shorts", x.walls(1, 1, 0, 0), -13);
                check.due("P19 all are so", x.books(1, 0), 0);
            }
            x.sheet(0, 2, walls);
            for (int i = 0; i < walls; i++) {
                x.cell(0, i, 201 + i);
            }
            check.due("P19 by hand", x.books(0, 0), 0);
        }
    }

    /** Promise 19: "NONE: never". */
    private static void filmOfNever() {
        BeforeItGoes x = Check.ruled("ripens 240;takes 20;spoils 0;");
        for (int i = 0; i < 6; i++) {
            x.wall(5, 0, 20);
        }
        x.film(3);
        check.due("P19 as it is", x.books(3, 0), 0);
        // what it tells, seen by other days: all are TROWELLED by TEXT 0 and 1 yard, none in minute -1
        Check.fill(x, 2, 2, 1600, 2420, 3240, -1, -1, -1);
        check.due("P17 so it was told", x.books(2, 0), 0);
        x.copy(3, 3, 2, 0, 3);
        check.due("P19 NONE comes to 0 .. 2", x.books(2, 0), 7);
        for (int i = 0; i < 6; i++) {
            x.set(7, i, 1);
        }
        check.due("P17 all are TROWELLED: none is so", x.books(3, 0), 63);
        Check.fill(x, 2, 2, 1600, 2420, 3240, 0, 0, 0);
        check.due("P17 0 is not never", x.books(2, 0), 63);
    }

    /** Promise 19: "truly becomes": it stays as it was filmed, and is a SHEET as any other. */
    private static void filmStays() {
        BeforeItGoes x = Check.ruled("ripens 20;takes 1;spoils 0;");
        x.wall(0, 0, 1);
        x.wall(0, 0, 1);
        x.film(0);
        x.film(1);
        x.set(7, 0, 2);
        check.due("P19 another day", x.books(0, 0), 3);
        x.set(7, 0, 1);
        check.due("P19 the same day", x.books(0, 0), 0);
        check.due("P26 an item of it", x.cell(0, 0, 20), 1);
        check.due("P17 0 isn't so", x.books(0, 0), 1);
        check.due("P17 the other SHEET", x.books(1, 0), 0);
        x.wall(0, 0, 1);
        check.due("P17 no more of that size", x.books(0, 0), BAD);
        x.image();
        x.back();
        check.due("P23 SHEETS stay", x.books(0, 0), BAD);
    }

    private static long warmBy(long seed) {
        long z = Math.floorMod(seed * 1103515245L + 12345L, 1L << 32);
        return z / 512 % 41;
    }

    /** Terms 2: "z = SEED * 1103515245 + 12345 (an int)", "(z >>> 9) % 41". */
    private static void seedsWrap() {
        BeforeItGoes x = Check.ruled("ripens 20;takes 1;spoils 100 + warm;");
        x.wall(0, 0, 1);
        x.set(5, 0, 1);
        int[] seeds = {0, 1, -1, 2, -2, FAR, FAR - 1, DEEP, DEEP + 1, 1 << 16, -(1 << 16), 1 << 30, 12345, -12345};
        for (int seed : seeds) {
            check.due("P20 drawn(" + seed + ")", x.drawn(seed), 100 + warmBy(seed));
        }
        // reckoned by hand: 24; 2155327, modulo 41 39; of -1: 3191464396 by 512 is 6233328, modulo 41 16
        check.due("P20 drawn(0)", x.drawn(0), 124);
        check.due("P20 drawn(1)", x.drawn(1), 139);
        check.due("P20 drawn(-1)", x.drawn(-1), 116);
        boolean least = false, most = false;
        for (int seed = 0; seed < 200; seed++) {
            int warm = x.drawn(seed) - 100;
            check.due("P20 drawn(" + seed + ")", warm, warmBy(seed));
            least |= warm == 0;
            most |= warm == 40;
        }
        check.due("P20 WARM 0 and 40 were drawn", least && most ? 1 : 0, 1);
        check.due("P20 WARM stays", x.count(1), 18);
    }

    /** BAD of a drawn WARM is that of the PLAIN day by that WARM. */
    private static void seedsByTheLine() {
        BeforeItGoes x = new BeforeItGoes(), y = new BeforeItGoes();
        for (int i = 0; i < 6; i++) {
            x.wall(i, 9 - i, 5 * (i % 3) + 4);
            y.wall(i, 9 - i, 5 * (i % 3) + 4);
        }
        for (int seed = -100; seed < 100; seed++) {
            y.set(0, 0, (int) warmBy(seed));
            check.due("P20 drawn(" + seed + ")", x.drawn(seed), y.day(0));
        }
        check.due("P20 no WALLS", new BeforeItGoes().drawn(DEEP), 0);
    }

    /** Promise 21: "NO: n, part"; "IN n seeds (1 .. 20)". */
    private static void howManySeeds() {
        BeforeItGoes x = new BeforeItGoes();
        x.wall(0, 0, 1);
        for (int n = -1; n <= 22; n++) {
            for (int part = -1; part <= 2; part++) {
                boolean is = n >= 1 && n <= 20 && part >= 0 && part <= 1;
                check.due("P21 chance(5, " + n + ", " + part + ")", x.chance(5, n, part), is ? 1 : NO);
            }
        }
        for (int far : new int[] {FAR, DEEP}) {
            check.due("P21 chance(5, " + far + ", 0)", x.chance(5, far, 0), NO);
            check.due("P21 chance(5, 1, " + far + ")", x.chance(5, 1, far), NO);
        }
    }

    /** Promise 21: "in lowest terms": 0 of n, n of n, and all between. */
    private static void lowestTerms() {
        // LATE, if WARM is no less than some: of 20 seeds from 0 on
        for (int from = 0; from <= 41; from++) {
            BeforeItGoes x = Check.ruled("ripens 1 + 19 * (warm < " + from + ");takes 1;spoils 0;");
            x.wall(0, 0, 1);
            x.wall(0, 0, 20);
            for (int n = 1; n <= 20; n++) {
                int above = 0;
                for (int seed = 0; seed < n; seed++) {
                    above += warmBy(seed) < from ? 1 : 0;
                }
                int below = n;
                for (int by = 20; by > 1; by--) {
                    while (above % by == 0 && below % by == 0) {
                        above /= by;
                        below /= by;
                    }
                }
                check.due("P21 chance(0, " + n + ", 0), LATE from " + from, x.chance(0, n, 0), above);
                check.due("P21 chance(0, " + n + ", 1), LATE from " + from, x.chance(0, n, 1), below);
            }
        }
    }

    /** Terms 2: "SEED and each 1 more (an int)": behind the greatest comes the least. */
    private static void seedsOneMore() {
        BeforeItGoes x = Check.ruled("ripens 1 + 19 * (warm < 20);takes 1;spoils 0;");
        x.wall(0, 0, 1);
        x.wall(0, 0, 20);
        for (int seed : new int[] {FAR, FAR - 1, FAR - 9, FAR - 18, FAR - 19, DEEP, -1, -10, -20}) {
            int fine = 0;
            for (int i = 0; i < 19; i++) {
                fine += warmBy(seed + i) < 20 ? 1 : 0;
            }
            // 19 has no divisor: so these are the lowest terms, but of 0 and 19
            check.due("P21 some are fine", fine > 0 && fine < 19 ? 1 : 0, 1);
            check.due("P21 chance(" + seed + ", 19, 0)", x.chance(seed, 19, 0), fine);
            check.due("P21 chance(" + seed + ", 19, 1)", x.chance(seed, 19, 1), 19);
        }
    }

    /** Promise 23: "STATE: there is none". */
    private static void noImage() {
        BeforeItGoes x = new BeforeItGoes();
        check.due("P23 back()", x.back(), STATE);
        x.wall(0, 0, 1);
        check.due("P23 back()", x.back(), STATE);
        check.due("P23 it stands", x.count(0), 1);
        check.due("P22 image()", x.image(), 1);
        check.due("P23 back()", x.back(), 1);
        check.due("P23 back() again", x.back(), 1);
    }

    /** An IMAGE of none, of six: "(WALLS that came since go)". */
    private static void imageOfNone() {
        for (int kept = 0; kept <= 6; kept++) {
            BeforeItGoes x = new BeforeItGoes();
            for (int i = 0; i < kept; i++) {
                x.wall(i, i, i + 1);
            }
            check.due("P22 image() of " + kept, x.image(), kept);
            for (int round = 0; round < 2; round++) {
                for (int i = kept; i < 6; i++) {
                    check.due("P3 it comes", x.wall(5 - i, 9, 20), i);
                }
                check.due("P3 no seventh", x.wall(0, 0, 1), -4);
                check.due("P23 back()", x.back(), kept);
                check.due("P23 how many", x.count(0), kept);
                check.due("P23 none behind these", x.told(kept, 0), BAD);
                for (int i = 0; i < kept; i++) {
                    check.due("P23 KIND of " + i, x.told(i, 0), i);
                }
            }
        }
    }

    /** Terms 2: "AN IMAGE keeps WARM, AGE, DIRT, HANDS, GAP, EAGER, NUMBERS, YARDS, which are WET, THE RULE". */
    private static void imageKeeps() {
        int[] least = {0, 0, 0, 1, 0, 0, 0, 1, 0}, most = {40, 9, 9, 2, 60, 20, 9, 20, 1};
        for (int what = 0; what < 9; what++) {
            BeforeItGoes x = new BeforeItGoes();
            x.wall(0, 5, 5);
            for (int v : new int[] {least[what], most[what]}) {
                x.set(what, 0, v);
                x.image();
                x.set(what, 0, least[what] + most[what] - v);
                x.back();
                check.due("P23 " + what + " is as kept", x.set(what, 0, v), v);
                x.set(what, 0, least[what] + most[what] - v);
                x.back();
                check.due("P23 " + what + " is so once more", x.set(what, 0, v), v);
            }
        }
        BeforeItGoes x = new BeforeItGoes();
        for (int text = 1; text < 6; text++) {
            Check.learn(x, "ripens 1;takes 1;spoils 1;");
        }
        for (int text = 0; text < 6; text++) {
            x.force(text);
            x.image();
            x.force(5 - text);
            x.back();
            check.due("P23 THE RULE is as kept", x.count(9), text);
        }
    }

    /** "All that it keeps": TEXTS, THE TAPE, SHEETS are none of it. */
    private static void imageKeepsNoMore() {
        BeforeItGoes x = new BeforeItGoes();
        x.wall(0, 0, 1);
        x.image();
        check.due("P6 a TEXT that came since", Check.learn(x, "ripens 9;takes 1;spoils 1;"), 1);
        x.force(1);
        x.feed('r');
        x.sheet(0, 0, 1);
        x.back();
        check.due("P23 TEXTS stay", x.count(7), 2);
        check.due("P23 THE TAPE stays", x.count(8), 1);
        check.due("P23 SHEETS stay", x.cell(0, 0, 0), 1);
        check.due("P23 THE RULE goes back", x.count(9), 0);
        check.due("P7 TEXT 1 still is one", x.force(1), 0);
        check.due("P4 by TEXT 1", x.told(0, 4), 9);
    }

    /** Promise 24: "BAD"; each of them from none to the most. */
    private static void counts() {
        BeforeItGoes x = new BeforeItGoes();
        for (int what : new int[] {-1, 10, 11, FAR, DEEP}) {
            check.due("P24 count(" + what + ")", x.count(what), BAD);
        }
        for (int n = 0; n <= 6; n++) {
            check.due("P24 WALLS", x.count(0), n);
            x.wall(0, 0, 1);
        }
        check.due("P24 WALLS, a seventh did not come", x.count(0), 6);
        for (int n = 0; n <= 160; n++) {
            check.due("P24 bytes of THE TAPE", x.count(8), n);
            x.feed(' ');
        }
        check.due("P24 bytes of THE TAPE, one did not come", x.count(8), 160);
    }

    /** What is asked of books and seeds changes nothing of what is. */
    private static void nothingIsChanged() {
        String before = Probe.of(stand());
        BeforeItGoes x = stand();
        for (int what = 0; what < 13; what++) {
            x.books(0, what);
            x.books(1, what);
            x.count(what);
        }
        x.warms(0);
        x.drawn(77);
        x.chance(77, 20, 0);
        check.due("P17 .. P24 change nothing", before.equals(Probe.of(x)) ? 1 : 0, 1);
    }

    private static BeforeItGoes stand() {
        BeforeItGoes x = new BeforeItGoes();
        Check.learn(x, "ripens 8 + warm;takes 3;spoils off + 20;");
        x.wall(1, 5, 6);
        x.wall(3, 4, 9);
        x.wall(4, 3, 2);
        x.set(8, 1, 1);
        x.set(2, 0, 4);
        x.image();
        x.set(0, 0, 33);
        x.set(1, 0, 3);
        x.force(1);
        Check.fill(x, 0, 1, 5, 4, 3);
        return x;
    }
}
