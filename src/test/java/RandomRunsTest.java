import java.util.Random;

/** All promises at once: drawn runs of calls, each answer compared with SlowPlaster's. */
public final class RandomRunsTest {
    private static final String[] WORDS = {"warm", "age", "dirt", "yards", "off", "number", "ripens", "takes", "spoils",
        "or", "and", "not", "(", ")", ";", "+", "-", "*", "<", "=", "7", "60", "9999", "12345", "foo", "?", " ", "\n"};

    private final Random random;
    private final BeforeItGoes quick = new BeforeItGoes();
    private final SlowPlaster slow = new SlowPlaster();
    private final Check check;
    private final int run;
    private int calls = 0;

    private RandomRunsTest(int run, Check check) {
        this.random = new Random(run);
        this.run = run;
        this.check = check;
    }

    public static void main(String[] args) {
        int from = args.length > 0 ? Integer.parseInt(args[0]) : 0;
        int runs = args.length > 1 ? Integer.parseInt(args[1]) : 120;
        Check check = new Check();
        for (int run = from; run < from + runs; run++) {
            new RandomRunsTest(run, check).go();
        }
        for (int run = from; run < from + 20 * runs; run++) {
            new RandomRunsTest(-1 - run, check).readOneText();
        }
        check.end();
    }

    private void due(String call, long got, long want) {
        calls++;
        check.due("run " + run + ", call " + calls + ": " + call, got, want);
    }

    private int upTo(int most) {
        return random.nextInt(most + 1);
    }

    /** Mostly least .. most, now and then a bit or far outside. */
    private int about(int least, int most) {
        switch (upTo(15)) {
            case 0: return least - 1;
            case 1: return most + 1;
            case 2: return random.nextBoolean() ? random.nextInt() : Integer.MAX_VALUE - upTo(3);
            default: return least + random.nextInt(most - least + 1);
        }
    }

    private String sum(int depth) {
        StringBuilder sum = new StringBuilder(one(depth));
        for (int i = upTo(2); i > 0; i--) {
            sum.append(" ").append("+-*".charAt(upTo(2))).append(random.nextBoolean() ? " " : "").append(one(depth));
        }
        return sum.toString();
    }

    private String one(int depth) {
        switch (upTo(depth > 0 ? 6 : 4)) {
            case 0: return Integer.toString(upTo(9));
            case 1: return Integer.toString(upTo(random.nextInt(10) == 0 ? 9999 : 99));
            case 5: return "-" + one(depth - 1);
            case 6: return "(" + e(depth - 1) + ")";
            default: return WORDS[upTo(5)];
        }
    }

    private String e(int depth) {
        StringBuilder e = new StringBuilder();
        for (int i = upTo(5) == 0 ? 1 : 0; i >= 0; i--) {
            if (upTo(5) == 0) e.append("not ");
            e.append(sum(depth));
            if (upTo(4) == 0) e.append(random.nextBoolean() ? "<" : " = ").append(sum(depth));
            if (i > 0) e.append(random.nextBoolean() ? " and " : " or ");
        }
        return e.toString();
    }

    private String tape() {
        if (upTo(9) == 0) {
            String deep = new String[] {"(", "not ", "-", "(-", "(not ", "not(", "-("}[upTo(6)];
            String opened = deep.repeat(2 + upTo(4));
            return "ripens 40 + " .substring(0, random.nextBoolean() ? 7 : 12) + opened + "age"
                    + ")".repeat((int) opened.chars().filter(c -> c == '(').count()) + "; takes 1; spoils 3;";
        }
        int depth = upTo(4);
        String text = "ripens " + (random.nextBoolean() ? "50 - " : "") + e(depth) + ";takes " + e(1 + upTo(1))
                + ";\nspoils " + (random.nextBoolean() ? "off * off + " : "") + e(depth) + " ;";
        for (int i = upTo(2) == 0 ? 1 + upTo(2) : 0; i > 0; i--) {
            int at = upTo(text.length());
            int to = Math.min(text.length(), at + upTo(2));
            String in = random.nextInt(4) == 0 ? "" + (char) upTo(255) : WORDS[upTo(WORDS.length - 1)];
            text = text.substring(0, at) + (upTo(3) == 0 ? "" : in) + text.substring(to);
        }
        return text.substring(0, Math.min(text.length(), upTo(5) == 0 ? upTo(160) : 165));
    }

    private void learn() {
        String text = tape();
        for (int i = 0; i < text.length() && calls < 500; i++) {
            int letter = text.charAt(i);
            due("feed(" + letter + ")", quick.feed(letter), slow.feed(letter));
        }
        due("text() of " + text, quick.text(), slow.text());
        int rule = about(0, slow.count(7) - 1);
        due("force(" + rule + ")", quick.force(rule), slow.force(rule));
    }

    /** A SHEET that tells an order, or the minutes of the day, or anything. */
    private void fill() {
        int sheet = upTo(3), sort = upTo(2), walls = slow.count(0);
        int size = upTo(9) == 0 ? upTo(40) : walls;
        due("sheet(" + sheet + ")", quick.sheet(sheet, sort, size), slow.sheet(sheet, sort, size));
        int[] order = new int[size];
        for (int i = 0; i < size; i++) {
            int j = upTo(i);
            order[i] = order[j];
            order[j] = i;
        }
        boolean minutes = random.nextBoolean();
        for (int i = 0; i < size; i++) {
            int v = upTo(20) == 0 ? about(-1, 20) : minutes && i < walls ? slow.day(30 + i) : order[i];
            due("cell(" + sheet + ", " + i + ", " + v + ")", quick.cell(sheet, i, v), slow.cell(sheet, i, v));
        }
    }

    private int what() {
        return upTo(4) == 0 ? about(0, 4) : upTo(9) == 0 ? about(0, 49) : 10 * (1 + upTo(3)) + upTo(6);
    }

    private void readOneText() {
        wall();
        learn();
        change();
        for (int what = 4; what <= 6; what++) {
            due("told(0, " + what + ")", quick.told(0, what), slow.told(0, what));
        }
        wall();
        due("day(0)", quick.day(0), slow.day(0));
    }

    private void go() {
        for (int i = upTo(6); i > 0; i--) {
            wall();
        }
        // a SHEET that is filled takes 41 calls, and no object is asked more than 512 times
        while (calls < 460) {
            switch (upTo(9)) {
                case 0: case 1: change(); break;
                case 2: case 3: live(); break;
                case 4: case 5: would(); break;
                case 6: keep(); break;
                case 7: fill(); break;
                case 8: host(); break;
                default: if (upTo(8) == 0) learn(); else would();
            }
        }
    }

    private void wall() {
        int kind = about(0, 5), number = about(0, 9), yards = about(1, 20);
        due("wall(" + kind + ", " + number + ", " + yards + ")",
                quick.wall(kind, number, yards), slow.wall(kind, number, yards));
    }

    private void change() {
        int[] most = {40, 9, 9, 2, 60, 20, 9, 20, 1};
        int what = about(0, 8), of = about(0, 5);
        int v = what >= 0 && what <= 8 ? about(0, most[what]) : 1;
        due("set(" + what + ", " + of + ", " + v + ")", quick.set(what, of, v), slow.set(what, of, v));
        int told = about(0, 6);
        due("told(" + of + ", " + told + ")", quick.told(of, told), slow.told(of, told));
        if (upTo(3) == 0) wall();
    }

    private void live() {
        for (int i = 0; i < 4; i++) {
            int sheet = about(0, 3), what = what();
            due("day(" + what + ")", quick.day(what), slow.day(what));
            due("order(" + sheet + ", " + what + ")", quick.order(sheet, what), slow.order(sheet, what));
        }
    }

    private void would() {
        int what = about(0, 2), sort = about(0, 1), c = about(0, 99), b = about(1, 40);
        switch (upTo(8)) {
            case 0:
                if (upTo(7) == 0) due("best(" + what + ")", quick.best(what), slow.best(what));
                break;
            case 1:
                due("good(" + sort + ", " + what + ")", quick.good(sort, what), slow.good(sort, what));
                break;
            case 2:
                due("wetting(" + c + ", " + sort + ")", quick.wetting(c, sort), slow.wetting(c, sort));
                break;
            case 3: due("alone()", quick.alone(), slow.alone()); break;
            case 4: due("tooWarm()", quick.tooWarm(), slow.tooWarm()); break;
            case 5: due("gains(" + sort + ")", quick.gains(sort), slow.gains(sort)); break;
            case 6:
                due("buckets(" + b + ", " + sort + ")", quick.buckets(b, sort), slow.buckets(b, sort));
                break;
            case 7: due("drawn(" + c * 77777 + ")", quick.drawn(c * 77777), slow.drawn(c * 77777)); break;
            default:
                int n = about(1, 20);
                due("chance(" + c + ", " + n + ", " + sort + ")", quick.chance(c, n, sort), slow.chance(c, n, sort));
        }
    }

    private void keep() {
        int sheet = about(0, 3), what = random.nextBoolean() ? about(0, 3) : about(10, 15), count = about(0, 9);
        due("count(" + count + ")", quick.count(count), slow.count(count));
        due("books(" + sheet + ", " + what + ")", quick.books(sheet, what), slow.books(sheet, what));
        due("warms(" + sheet + ")", quick.warms(sheet), slow.warms(sheet));
        switch (upTo(9)) {
            case 0: case 1: case 2: due("film(" + sheet + ")", quick.film(sheet), slow.film(sheet)); break;
            case 3: due("image()", quick.image(), slow.image()); break;
            case 4: case 5: due("back()", quick.back(), slow.back()); break;
            default: break;
        }
    }

    private void host() {
        int sheet = about(0, 3), other = about(0, 3), sort = about(-1, 2), n = about(0, 12);
        int i = about(0, 12), j = about(0, 12), few = about(0, 6), kind = about(0, 5);
        if (upTo(5) == 0) {
            due("sheet(" + sheet + ", " + sort + ", " + n + ")", quick.sheet(sheet, sort, n), slow.sheet(sheet, sort, n));
        }
        due("cell(" + sheet + ", " + i + ", " + few + ")", quick.cell(sheet, i, few), slow.cell(sheet, i, few));
        String copy = "copy(" + sheet + ", " + i + ", " + other + ", " + j + ", " + few + ")";
        due(copy, quick.copy(sheet, i, other, j, few), slow.copy(sheet, i, other, j, few));
        int there = upTo(3);
        String within = "copy(" + there + ", " + i % 3 + ", " + there + ", " + j % 3 + ", " + few % 4 + ")";
        due(within, quick.copy(there, i % 3, there, j % 3, few % 4), slow.copy(there, i % 3, there, j % 3, few % 4));
        if (upTo(2) == 0) {
            String walls = "walls(" + sheet + ", " + sort + ", " + i + ", " + few + ")";
            due(walls, quick.walls(sheet, sort, i, few), slow.walls(sheet, sort, i, few));
        }
        due("taken(" + few + ", " + kind + ")", quick.taken(few, kind), slow.taken(few, kind));
    }
}
