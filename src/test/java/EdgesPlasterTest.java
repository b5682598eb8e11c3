/** Promises 1 to 4: a test for each sentence of the document that names an edge. */
public final class EdgesPlasterTest {
    private static final int FAR = Integer.MAX_VALUE, DEEP = Integer.MIN_VALUE, BAD = -2, FULL = -4;
    private static final Check check = new Check();

    public static void main(String[] args) {
        noWalls();
        atFirst();
        valuesOfSet();
        ofDoesNotMatter();
        ofMatters();
        whatOfSet();
        wallsThatAreNone();
        sixWalls();
        dryAsTheyCome();
        toldOfNone();
        boundsOfRipens();
        boundsOfTakes();
        ripensInTheEnd();
        lastsIsCut();
        halfIsCut();
        takesByOnePair();
        wetOrNot();
        check.end();
    }

    /** Promise 1: "No WALLS." */
    private static void noWalls() {
        BeforeItGoes x = new BeforeItGoes();
        check.due("P1 count(0)", x.count(0), 0);
        for (int what = -1; what <= 7; what++) {
            check.due("P1 told(0, " + what + ")", x.told(0, what), BAD);
        }
        check.due("P1 day(10)", x.day(10), -100000);
        check.due("P1 taken(0, 0)", x.taken(0, 0), -11);
        check.due("P1 image()", x.image(), 0);
        check.due("P1 the first one's number", x.wall(0, 0, 1), 0);
    }

    /** Terms 1, 3: "18 at first", "TEXT 0, at first THE RULE", "or missing (as all are at first)". */
    private static void atFirst() {
        BeforeItGoes x = new BeforeItGoes();
        int[] counts = {0, 18, 0, 0, 1, 0, 0, 1, 0, 0};
        for (int what = 0; what < 10; what++) {
            check.due("P1 at first count(" + what + ")", x.count(what), counts[what]);
        }
        for (int sheet = 0; sheet < 4; sheet++) {
            check.due("P1 missing " + sheet, x.cell(sheet, 0, 1), -11);
        }
        check.due("P1 no IMAGE", x.back(), -3);
        check.due("P1 THE TAPE is empty", x.feed(32), 1);
    }

    /** Promise 2, Terms 1: "WARM (0 .. 40 ..), AGE (0 .. 9 ..), ..": all that lies within, nothing that lies without. */
    private static void valuesOfSet() {
        int[] first = {18, 0, 0, 1, 0, 0, 3, 4, 0};
        int[] least = {0, 0, 0, 1, 0, 0, 0, 1, 0}, most = {40, 9, 9, 2, 60, 20, 9, 20, 1};
        for (int what = 0; what < 9; what++) {
            BeforeItGoes x = new BeforeItGoes();
            x.wall(1, 3, 4);
            int was = first[what];
            for (int v = least[what]; v <= most[what]; v++) {
                check.due("P2 set(" + what + ", 0, " + v + ")", x.set(what, 0, v), was);
                was = v;
                for (int other : new int[] {least[what] - 1, most[what] + 1, FAR, DEEP}) {
                    check.due("P2 set(" + what + ", 0, " + other + ")", x.set(what, 0, other), BAD);
                }
                int is = what < 6 ? x.count(what + 1) : x.told(0, what - 5);
                check.due("P2 " + what + " is " + v, is, v);
            }
        }
    }

    /** Promise 2: "of does not matter, but of 6 .. 8". */
    private static void ofDoesNotMatter() {
        int[] first = {18, 0, 0, 1, 0, 0};
        for (int what = 0; what < 6; what++) {
            BeforeItGoes x = new BeforeItGoes();
            int was = first[what];
            for (int of : new int[] {-1, 0, 6, FAR, DEEP}) {
                int v = was == 2 ? 1 : 2;
                check.due("P2 set(" + what + ", " + of + ", " + v + ")", x.set(what, of, v), was);
                was = v;
            }
        }
    }

    /** Promise 2: "of a WALL", numbered from 0. */
    private static void ofMatters() {
        for (int walls = 0; walls <= 6; walls++) {
            BeforeItGoes x = new BeforeItGoes();
            for (int i = 0; i < walls; i++) {
                x.wall(0, 1, 1);
            }
            for (int what = 6; what < 9; what++) {
                for (int of : new int[] {-1, walls, walls + 1, 6, FAR, DEEP}) {
                    check.due("P2 of " + walls + ": set(" + what + ", " + of + ", 1)", x.set(what, of, 1), BAD);
                }
                if (walls > 0) {
                    int was = what == 8 ? 0 : 1;
                    check.due("P2 the last of " + walls + ", " + what, x.set(what, walls - 1, 1), was);
                }
            }
        }
    }

    private static void whatOfSet() {
        BeforeItGoes x = new BeforeItGoes();
        x.wall(0, 1, 1);
        for (int what : new int[] {-1, 9, 10, FAR, DEEP}) {
            check.due("P2 set(" + what + ", 0, 1)", x.set(what, 0, 1), BAD);
        }
    }

    /** Promise 3: "BAD", by a KIND (0 .. 5), a NUMBER (0 .. 9), YARDS (1 .. 20). */
    private static void wallsThatAreNone() {
        for (int kind = -1; kind <= 6; kind++) {
            oneWall(kind, 0, 1, kind >= 0 && kind <= 5);
        }
        for (int number = -1; number <= 10; number++) {
            oneWall(0, number, 20, number >= 0 && number <= 9);
        }
        for (int yards = -1; yards <= 21; yards++) {
            oneWall(5, 9, yards, yards >= 1 && yards <= 20);
        }
        for (int far : new int[] {FAR, DEEP}) {
            oneWall(far, 0, 1, false);
            oneWall(0, far, 1, false);
            oneWall(0, 0, far, false);
        }
    }

    private static void oneWall(int kind, int number, int yards, boolean good) {
        BeforeItGoes x = new BeforeItGoes();
        String call = "P3 wall(" + kind + ", " + number + ", " + yards + ")";
        check.due(call, x.wall(kind, number, yards), good ? 0 : BAD);
        check.due(call + ", how many then", x.count(0), good ? 1 : 0);
        if (good) {
            check.due(call + ", KIND", x.told(0, 0), kind);
            check.due(call + ", NUMBER", x.told(0, 1), number);
            check.due(call + ", YARDS", x.told(0, 2), yards);
        }
    }

    /** Terms 1: "WALLS (6 at most, numbered from 0)"; promise 3: "BAD; FULL". */
    private static void sixWalls() {
        BeforeItGoes x = new BeforeItGoes();
        x.image();
        for (int round = 0; round < 2; round++) {
            for (int i = 0; i < 6; i++) {
                check.due("P3 the number of " + i, x.wall(i, i, i + 1), i);
                check.due("P3 how many then", x.count(0), i + 1);
            }
            check.due("P3 a seventh", x.wall(0, 0, 1), FULL);
            check.due("P3 a seventh that is none", x.wall(0, 0, 0), BAD);
            check.due("P3 six", x.count(0), 6);
            check.due("P3 the sixth stays", x.told(5, 2), 6);
            // WALLS that came since go: there is room again
            check.due("P3 none", x.back(), 0);
        }
    }

    /** Terms 1: "WET (1), or not (0, as they come)". */
    private static void dryAsTheyCome() {
        BeforeItGoes x = new BeforeItGoes();
        x.image();
        for (int round = 0; round < 2; round++) {
            for (int i = 0; i < 6; i++) {
                x.wall(i, 0, 1);
                check.due("P3 it comes dry", x.told(i, 3), 0);
                check.due("P3 it becomes WET", x.set(8, i, 1), 0);
                check.due("P3 it is WET", x.told(i, 3), 1);
            }
            x.back();
        }
    }

    /** Promise 4: "BAD", by a WALL, by what. */
    private static void toldOfNone() {
        for (int walls = 0; walls <= 6; walls += 3) {
            BeforeItGoes x = new BeforeItGoes();
            for (int i = 0; i < walls; i++) {
                x.wall(0, 0, 1);
            }
            for (int what = 0; what <= 6; what++) {
                for (int wall : new int[] {-1, walls, 6, FAR, DEEP}) {
                    check.due("P4 of " + walls + ": told(" + wall + ", " + what + ")", x.told(wall, what), BAD);
                }
            }
            for (int what : new int[] {-1, 7, 10, FAR, DEEP}) {
                check.due("P4 of " + walls + ": told(0, " + what + ")", x.told(0, what), BAD);
                check.due("P4 of " + walls + ": told(5, " + what + ")", x.told(5, what), BAD);
            }
        }
    }

    private static int told(String rule, int kind, int number, int yards, int what) {
        BeforeItGoes x = Check.ruled(rule);
        x.wall(kind, number, yards);
        return x.told(0, what);
    }

    /** Terms 1: "in how many minutes it is ripe (1 .. 240, else the bound)". */
    private static void boundsOfRipens() {
        String[] es = {"1", "2", "239", "240", "241", "9999", "0", "-1", "0 - 9999", "9999 * 9999 * 22", "8192 * 8192 * 32 - 1"};
        int[] due = {1, 2, 239, 240, 240, 240, 1, 1, 1, 1, 240};
        for (int i = 0; i < es.length; i++) {
            check.due("P4 ripens " + es[i], told("ripens " + es[i] + ";takes 1;spoils 0;", 0, 9, 1, 4), due[i]);
        }
        // the bound is the text's: what the KIND makes of it comes behind
        check.due("P4 PAINTED beyond 240", told("ripens 999;takes 1;spoils 0;", 2, 9, 1, 4), 258);
        check.due("P4 PAINTED from 1", told("ripens 0 - 99;takes 1;spoils 0;", 2, 9, 1, 4), 19);
        check.due("P4 BRICK from 240", told("ripens 999;takes 1;spoils 0;", 1, 9, 1, 4), 213);
    }

    /** Terms 1: "minutes for one yard (1 .. 20, else the bound)". */
    private static void boundsOfTakes() {
        String[] es = {"1", "2", "19", "20", "21", "9999", "0", "-1", "9999 * 9999 * 22"};
        int[] due = {1, 2, 19, 20, 20, 20, 1, 1, 1};
        for (int i = 0; i < es.length; i++) {
            check.due("P4 takes " + es[i], told("ripens 1;takes " + es[i] + ";spoils 0;", 0, 9, 1, 6), due[i]);
        }
        check.due("P4 a CEILING of 20 yards beyond 20", told("ripens 1;takes 99;spoils 0;", 5, 0, 20, 6), 800);
        check.due("P4 HOT from 1", told("ripens 1;takes 0;spoils 0;", 3, 0, 1, 6), 4);
    }

    /** Terms 1: "(RIPENS, TAKES 1 at least, LASTS 0 at least, in the end.)" */
    private static void ripensInTheEnd() {
        // BRICK of 9: 27 less; HOT: half of that
        int[] tells = {26, 27, 28, 29, 30, 31, 1}, brick = {1, 1, 1, 2, 3, 4, 1}, hot = {1, 1, 1, 1, 1, 2, 1};
        for (int i = 0; i < tells.length; i++) {
            String rule = "ripens " + tells[i] + ";takes 1;spoils 0;";
            check.due("P4 BRICK of " + tells[i], told(rule, 1, 9, 1, 4), brick[i]);
            check.due("P4 HOT of " + tells[i], told(rule, 3, 9, 1, 4), hot[i]);
        }
        for (int kind = 0; kind < 6; kind++) {
            check.due("P4 TAKES of KIND " + kind, told("ripens 1;takes 0;spoils 0;", kind, 0, 1, 6),
                    kind == 3 ? 4 : kind == 5 ? 2 : 1);
        }
    }

    /** Terms 1: "LASTS .. BRICK: NUMBER by 2 (cut) less than a WALL", "HOT: 2 less than a BRICK". */
    private static void lastsIsCut() {
        int[] brick = {10, 10, 9, 9, 8, 8, 7, 7, 6, 6};
        for (int number = 0; number < 10; number++) {
            BeforeItGoes x = new BeforeItGoes();
            for (int kind = 0; kind < 6; kind++) {
                x.wall(kind, number, 20);
            }
            int[] due = {10, brick[number], 10, brick[number] - 2, 15, 10};
            for (int kind = 0; kind < 6; kind++) {
                check.due("P4 LASTS of KIND " + kind + ", NUMBER " + number, x.told(kind, 5), due[kind]);
            }
        }
    }

    /** Terms 1: "HOT: half (cut) of a BRICK's", dry and WET. */
    private static void halfIsCut() {
        int[] dry = {21, 19, 18, 16, 15, 13, 12, 10, 9, 7}, wet = {21, 20, 20, 19, 19, 18, 18, 17, 17, 16};
        for (int number = 0; number < 10; number++) {
            BeforeItGoes x = new BeforeItGoes();
            x.wall(3, number, 1);
            check.due("P4 HOT, dry, " + number, x.told(0, 4), dry[number]);
            x.set(8, 0, 1);
            check.due("P4 HOT, WET, " + number, x.told(0, 4), wet[number]);
        }
    }

    /** Promise 4: "TAKES (by one pair of HANDS)". */
    private static void takesByOnePair() {
        BeforeItGoes x = Check.ruled("ripens 1;takes 3;spoils 0;");
        for (int kind = 0; kind < 6; kind++) {
            x.wall(kind, 7, 5);
        }
        int[] due = {15, 15, 15, 18, 15, 30};
        for (int hands = 1; hands <= 2; hands++) {
            x.set(3, 0, hands);
            for (int kind = 0; kind < 6; kind++) {
                check.due("P4 TAKES of KIND " + kind + ", HANDS " + hands, x.told(kind, 6), due[kind]);
            }
        }
    }

    /** Terms 1: RIPENS of each KIND with the least and the greatest NUMBER, dry and WET. */
    private static void wetOrNot() {
        int[][] due = {{42, 42, 42, 42}, {42, 15, 42, 33}, {42, 60, 42, 60}, {21, 7, 21, 16}, {42, 60, 42, 42}, {42, 42, 42, 42}};
        for (int kind = 0; kind < 6; kind++) {
            BeforeItGoes x = new BeforeItGoes();
            x.wall(kind, 0, 1);
            x.wall(kind, 9, 1);
            check.due("P4 RIPENS, dry, 0, KIND " + kind, x.told(0, 4), due[kind][0]);
            check.due("P4 RIPENS, dry, 9, KIND " + kind, x.told(1, 4), due[kind][1]);
            x.set(8, 0, 1);
            x.set(8, 1, 1);
            check.due("P4 RIPENS, WET, 0, KIND " + kind, x.told(0, 4), due[kind][2]);
            check.due("P4 RIPENS, WET, 9, KIND " + kind, x.told(1, 4), due[kind][3]);
        }
    }
}
