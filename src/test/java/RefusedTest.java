/**
 * "Refusals, the first that the call's words name; they change nothing": every way in which a call is
 * refused, each on an object in which all stands that could be changed, and beside it one to which
 * the call never came.
 */
public final class RefusedTest {
    private static final int FAR = Integer.MAX_VALUE, DEEP = Integer.MIN_VALUE;
    private static final long NO = -4611686018427387904L;
    private static final int BAD = -2, STATE = -3, FULL = -4, NO_DAY = -100000;
    private static final int NOTHING = -11, OUTSIDE = -12, UNLIKE = -13, BELOW_NONE = -14;
    private static final Check check = new Check();

    /** One call of an object. */
    private interface Call {
        long of(BeforeItGoes x);
    }

    public static void main(String[] args) {
        plaster();
        days();
        books();
        host();
        full();
        noImage();
        check.end();
    }

    /** Three WALLS, an IMAGE that is another state, two TEXTS, a TEXT on THE TAPE, SHEETS 0 .. 2 of each sort. */
    private static BeforeItGoes stand() {
        BeforeItGoes x = new BeforeItGoes();
        Check.learn(x, "ripens 30 + number;takes 2;spoils off;");
        x.wall(1, 2, 3);
        x.wall(4, 5, 6);
        x.wall(5, 1, 9);
        int[] image = {20, 1, 2, 1, 3, 4}, then = {30, 2, 1, 2, 7, 6};
        turn(x, image);
        x.image();
        turn(x, then);
        x.set(8, 1, 1);
        x.set(6, 2, 8);
        x.set(7, 0, 5);
        x.force(1);
        for (int sort = 0; sort < 3; sort++) {
            Check.fill(x, sort, sort, 1, 2, 3, 4, 5, 1, 3 - sort);
        }
        for (char c : "ripens 77;takes 3;spoils 5;".toCharArray()) {
            x.feed(c);
        }
        return x;
    }

    private static void turn(BeforeItGoes x, int[] dials) {
        for (int what = 0; what < dials.length; what++) {
            x.set(what, 0, dials[what]);
        }
    }

    private static void refused(String call, long due, Call made) {
        BeforeItGoes x = stand();
        check.due(call, made.of(x), due);
        check.due(call + " changes nothing", Probe.of(x).equals(Probe.of(stand())) ? 1 : 0, 1);
    }

    private static void plaster() {
        int[] least = {0, 0, 0, 1, 0, 0, 0, 1, 0}, most = {40, 9, 9, 2, 60, 20, 9, 20, 1};
        for (int what = 0; what < 9; what++) {
            int w = what;
            for (int v : new int[] {least[w] - 1, most[w] + 1, FAR, DEEP}) {
                refused("set(" + w + ", 0, " + v + ")", BAD, x -> x.set(w, 0, v));
            }
            for (int of : new int[] {-1, 3, 6, FAR, DEEP}) {
                if (w > 5) {
                    refused("set(" + w + ", " + of + ", 1)", BAD, x -> x.set(w, of, 1));
                }
            }
        }
        for (int what : new int[] {-1, 9, FAR, DEEP}) {
            refused("set(" + what + ", 0, 1)", BAD, x -> x.set(what, 0, 1));
            refused("told(0, " + what + ")", BAD, x -> x.told(0, what));
            refused("told(-1, " + what + ")", BAD, x -> x.told(-1, what));
        }
        int[][] walls = {{-1, 0, 1}, {6, 0, 1}, {0, -1, 1}, {0, 10, 1}, {0, 0, 0}, {0, 0, 21}, {FAR, 0, 1}, {0, DEEP, 1}};
        for (int[] w : walls) {
            refused("wall(" + w[0] + ", " + w[1] + ", " + w[2] + ")", BAD, x -> x.wall(w[0], w[1], w[2]));
        }
        for (int letter : new int[] {-1, 256, FAR, DEEP}) {
            refused("feed(" + letter + ")", BAD, x -> x.feed(letter));
        }
        for (int text : new int[] {-1, 2, 6, FAR, DEEP}) {
            refused("force(" + text + ")", BAD, x -> x.force(text));
        }
    }

    private static void days() {
        for (int what : new int[] {-1, 5, 9, 13, 19, 23, 50, FAR, DEEP}) {
            refused("day(" + what + ")", NO_DAY, x -> x.day(what));
            refused("order(1, " + what + ")", NO_DAY, x -> x.order(1, what));
        }
        for (int sheet : new int[] {-1, 0, 1, 3, 4, FAR, DEEP}) {
            refused("order(" + sheet + ", 0)", NO_DAY, x -> x.order(sheet, 0));
        }
        for (int what : new int[] {-1, 3, FAR, DEEP}) {
            refused("best(" + what + ")", BAD, x -> x.best(what));
            refused("good(0, " + what + ")", BAD, x -> x.good(0, what));
            refused("good(1, " + what + ")", BAD, x -> x.good(1, what));
            refused("good(" + what + ", 0)", BAD, x -> x.good(what, 0));
            refused("wetting(9, " + what + ")", BAD, x -> x.wetting(9, what));
            refused("gains(" + what + ")", NO_DAY, x -> x.gains(what));
            refused("buckets(9, " + what + ")", BAD, x -> x.buckets(9, what));
        }
        for (int c : new int[] {-1, 100, FAR, DEEP}) {
            refused("wetting(" + c + ", 0)", BAD, x -> x.wetting(c, 0));
        }
        for (int b : new int[] {0, -1, 41, FAR, DEEP}) {
            refused("buckets(" + b + ", 0)", BAD, x -> x.buckets(b, 0));
        }
    }

    private static void books() {
        for (int sheet : new int[] {-1, 4, FAR, DEEP}) {
            refused("books(" + sheet + ", 0)", BAD, x -> x.books(sheet, 0));
            refused("warms(" + sheet + ")", NO, x -> x.warms(sheet));
            refused("film(" + sheet + ")", BAD, x -> x.film(sheet));
        }
        for (int what : new int[] {-1, 4, 9, 13, 16, FAR, DEEP}) {
            refused("books(0, " + what + ")", BAD, x -> x.books(0, what));
            refused("books(3, " + what + "), missing", BAD, x -> x.books(3, what));
        }
        for (int what : new int[] {0, 1, 2, 3, 10, 12}) {
            refused("books(3, " + what + "), missing", NOTHING, x -> x.books(3, what));
            refused("books(0, " + what + "), too long", BAD, x -> x.books(0, what));
        }
        refused("warms(3), missing", NO, x -> x.warms(3));
        refused("warms(0), too long", NO, x -> x.warms(0));
        for (int n : new int[] {0, -1, 21, FAR, DEEP}) {
            refused("chance(1, " + n + ", 0)", NO, x -> x.chance(1, n, 0));
        }
        for (int part : new int[] {-1, 2, FAR, DEEP}) {
            refused("chance(1, 3, " + part + ")", NO, x -> x.chance(1, 3, part));
        }
        for (int what : new int[] {-1, 10, FAR, DEEP}) {
            refused("count(" + what + ")", BAD, x -> x.count(what));
        }
    }

    private static void host() {
        int[][] sheets = {{-1, 0, 1, BAD}, {4, 0, 1, BAD}, {FAR, -1, 0, BAD}, {0, -2, 1, BAD}, {0, 3, 1, BAD}, {0, 0, 41, BAD},
            {0, 2, FAR, BAD}, {0, 3, -1, BAD}, {4, 0, -1, BAD}, {0, 0, -1, BELOW_NONE}, {1, 2, DEEP, BELOW_NONE},
            {3, 1, -1, BELOW_NONE}};
        for (int[] s : sheets) {
            refused("sheet(" + s[0] + ", " + s[1] + ", " + s[2] + ")", s[3], x -> x.sheet(s[0], s[1], s[2]));
        }
        int[][] cells = {{-1, 0, BAD}, {4, 0, BAD}, {4, 99, BAD}, {3, 0, NOTHING}, {3, 99, NOTHING}, {0, -1, OUTSIDE},
            {0, 7, OUTSIDE}, {1, 39, OUTSIDE}, {2, 40, OUTSIDE}, {2, FAR, OUTSIDE}, {0, DEEP, OUTSIDE}};
        for (int[] c : cells) {
            refused("cell(" + c[0] + ", " + c[1] + ", 4)", c[2], x -> x.cell(c[0], c[1], 4));
        }
        copies();
        int[][] walls = {{-1, 0, 0, 1, BAD}, {4, 0, 0, 1, BAD}, {0, -1, 0, 1, BAD}, {0, 3, 0, 1, BAD}, {0, 0, 0, -1, BAD},
            {0, 0, 0, 7, BAD}, {3, 3, 0, 1, BAD}, {3, 0, 0, 7, BAD}, {1, 0, 0, -1, BAD}, {1, 0, 0, 1, UNLIKE},
            {0, 1, 99, 1, UNLIKE}, {2, 0, 0, 0, UNLIKE}, {3, 0, 0, 1, NOTHING}, {3, 1, 99, 1, NOTHING}, {3, 2, 0, 0, NOTHING},
            {0, 0, -1, 1, OUTSIDE}, {0, 0, 5, 1, OUTSIDE}, {0, 0, 6, 1, OUTSIDE}, {0, 0, 7, 1, OUTSIDE}, {0, 0, FAR, 6, OUTSIDE},
            {0, 0, FAR - 2, 1, OUTSIDE}, {0, 0, DEEP, 6, OUTSIDE}};
        for (int[] w : walls) {
            String call = "walls(" + w[0] + ", " + w[1] + ", " + w[2] + ", " + w[3] + ")";
            refused(call, w[4], x -> x.walls(w[0], w[1], w[2], w[3]));
        }
        int[][] taken = {{0, -1, BAD}, {0, 6, BAD}, {0, FAR, BAD}, {9, 6, BAD}, {3, 0, NOTHING}, {-1, 3, NOTHING},
            {FAR, 0, NOTHING}, {DEEP, 0, NOTHING}, {0, 2, UNLIKE}, {0, 3, UNLIKE}, {1, 1, UNLIKE}, {2, 1, UNLIKE}};
        for (int[] t : taken) {
            refused("taken(" + t[0] + ", " + t[1] + ")", t[2], x -> x.taken(t[0], t[1]));
        }
    }

    private static void copies() {
        int[][] copies = {{-1, 0, 1, 0, 1, BAD}, {0, 0, 4, 0, 1, BAD}, {3, 0, 4, 0, 1, BAD}, {4, 0, 3, 0, -1, BAD},
            {3, 0, 0, 0, 1, NOTHING}, {0, 0, 3, 0, 1, NOTHING}, {3, -1, 3, 0, -1, NOTHING}, {0, 0, 1, 0, 1, UNLIKE},
            {2, 0, 0, 0, 0, UNLIKE}, {1, -1, 2, 9, -1, UNLIKE}, {0, 0, 0, 1, -1, OUTSIDE}, {0, 0, 0, 1, DEEP, OUTSIDE},
            {0, -1, 0, 0, 1, OUTSIDE}, {0, 1, 0, -1, 1, OUTSIDE}, {0, 0, 0, 1, 7, OUTSIDE}, {0, 1, 0, 0, 7, OUTSIDE},
            {0, 6, 0, 0, 2, OUTSIDE}, {0, 0, 0, 6, 2, OUTSIDE}, {0, 7, 0, 0, 1, OUTSIDE}, {0, 0, 0, 7, 1, OUTSIDE},
            {0, 8, 0, 0, 0, OUTSIDE}, {0, 0, 0, 8, 0, OUTSIDE}, {0, -1, 0, 0, 0, OUTSIDE}, {0, FAR, 0, 0, 1, OUTSIDE},
            {0, 0, 0, FAR, 1, OUTSIDE}, {0, 1, 0, 0, FAR, OUTSIDE}, {0, FAR, 0, FAR, FAR, OUTSIDE}, {0, DEEP, 0, 0, 1, OUTSIDE},
            {0, DEEP, 0, 0, DEEP, OUTSIDE}, {0, 0, 0, 0, 8, OUTSIDE}};
        for (int[] c : copies) {
            String call = "copy(" + c[0] + ", " + c[1] + ", " + c[2] + ", " + c[3] + ", " + c[4] + ")";
            refused(call, c[5], x -> x.copy(c[0], c[1], c[2], c[3], c[4]));
        }
    }

    /** FULL: BAD is told ahead of it, of text() it is told ahead of all. */
    private static void full() {
        full("wall(0, 0, 1), six stand", FULL, RefusedTest::sixWalls, x -> x.wall(0, 0, 1));
        full("wall(6, 0, 1), six stand", BAD, RefusedTest::sixWalls, x -> x.wall(6, 0, 1));
        full("feed(59), 160 stand", FULL, RefusedTest::fullTape, x -> x.feed(59));
        full("feed(256), 160 stand", BAD, RefusedTest::fullTape, x -> x.feed(256));
        full("text(), six stand, THE TAPE is faulty", FULL, RefusedTest::sixTexts, x -> x.text());
        // SHEETS may tell of WALLS for which there is no room: they are left out
        BeforeItGoes x = sixWalls();
        Check.fill(x, 0, 2, 0, 0, 1);
        check.due("walls(0, 2, 0, 1), six stand", x.walls(0, 2, 0, 1), 0);
        check.due("six still stand", x.count(0), 6);
    }

    private static void full(String call, long due, java.util.function.Supplier<BeforeItGoes> made, Call asked) {
        BeforeItGoes x = made.get();
        check.due(call, asked.of(x), due);
        check.due(call + " changes nothing", Probe.of(x).equals(Probe.of(made.get())) ? 1 : 0, 1);
    }

    private static BeforeItGoes sixWalls() {
        BeforeItGoes x = new BeforeItGoes();
        for (int i = 0; i < 6; i++) {
            x.wall(i, i + 1, 10 + i);
        }
        return x;
    }

    private static BeforeItGoes fullTape() {
        BeforeItGoes x = new BeforeItGoes();
        String text = "ripens 77;takes 3;spoils 5";
        for (int i = 0; i < 160; i++) {
            x.feed(i < 159 ? i < text.length() ? text.charAt(i) : 32 : ';');
        }
        return x;
    }

    private static BeforeItGoes sixTexts() {
        BeforeItGoes x = new BeforeItGoes();
        for (int text = 1; text < 6; text++) {
            Check.learn(x, "ripens " + text + ";takes 1;spoils 1;");
        }
        x.feed('(');
        return x;
    }

    private static void noImage() {
        BeforeItGoes x = new BeforeItGoes();
        x.wall(1, 2, 3);
        x.set(0, 0, 30);
        check.due("back(), no IMAGE", x.back(), STATE);
        check.due("its WALL stands", x.told(0, 2), 3);
        check.due("its WARM stands", x.count(1), 30);
    }
}
