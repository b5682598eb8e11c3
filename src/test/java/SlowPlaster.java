import java.util.ArrayList;
import java.util.Arrays;
import java.util.List;

/**
 * The document told a second time, slowly and by other ways than the class goes: minute by minute,
 * texts read by a machine of open things and reckoned by cutting them in two, every choice by trying
 * all. RandomRunsTest compares the two.
 */
final class SlowPlaster {
    private static final int NO_DAY = -100000;
    private static final long NO = -4611686018427387904L;
    private static final List<String> NAMES = List.of("warm", "age", "dirt", "yards", "off", "number");
    private static final List<String> KEYS = List.of("ripens", "takes", "spoils", "or", "and", "not");
    private static final int[] UNDER = {-1, 0, 0, 1, 2, 0};

    static final class Token {
        final String word;
        final int place;

        Token(String word, int place) {
            this.word = word;
            this.place = place;
        }
    }

    /** kind, number, yards, wet */
    private List<int[]> walls = new ArrayList<>();
    private int[] dials = {18, 0, 0, 1, 0, 0};
    private int rule = 0;
    private List<int[]> keptWalls = null;
    private int[] keptDials = null;
    private int keptRule = 0;
    private final List<List<List<String>>> texts = new ArrayList<>();
    private StringBuilder tape = new StringBuilder();
    private final int[][] sheets = new int[4][];
    private final int[] sorts = {-1, -1, -1, -1};

    // a day's outcome
    private int bad, done, waited, late, early;
    private int[] begun, ripe, trowelled, off;

    SlowPlaster() {
        tape.append("ripens 60 - warm - dirt * 4 - age * 2 ; takes 2 ; spoils off * off * yards ;");
        text();
    }

    // ---- the plaster, walls

    int set(int what, int of, int v) {
        int[][] bounds = {{0, 40}, {0, 9}, {0, 9}, {1, 2}, {0, 60}, {0, 20}, {0, 9}, {1, 20}, {0, 1}};
        if (what < 0 || what > 8 || v < bounds[what][0] || v > bounds[what][1]) return -2;
        if (what < 6) {
            int was = dials[what];
            dials[what] = v;
            return was;
        }
        if (of < 0 || of >= walls.size()) return -2;
        int was = walls.get(of)[what - 5];
        walls.get(of)[what - 5] = v;
        return was;
    }

    int wall(int kind, int number, int yards) {
        if (kind < 0 || kind > 5 || number < 0 || number > 9 || yards < 1 || yards > 20) return -2;
        if (walls.size() == 6) return -4;
        walls.add(new int[] {kind, number, yards, 0});
        return walls.size() - 1;
    }

    int told(int wall, int what) {
        if (wall < 0 || wall >= walls.size() || what < 0 || what > 6) return -2;
        if (what < 4) return walls.get(wall)[what];
        int[] w = walls.get(wall);
        return what == 4 ? ripens(w) : what == 5 ? lasts(w) : takes(w);
    }

    private int ripens(int[] w) {
        return Math.max(1, ripensAs(w[0], w, tells(0, w, 0, 1, 240)));
    }

    private static int ripensAs(int kind, int[] w, int v) {
        switch (kind) {
            case 0: return v;
            case 1: return ripensAs(0, w, v) - (w[3] == 1 ? w[1] : 3 * w[1]);
            case 2: return ripensAs(0, w, v) + 2 * w[1];
            case 3: return ripensAs(1, w, v) / 2;
            case 4: return ripensAs(w[3] == 1 ? 0 : 2, w, v);
            default: return ripensAs(0, w, v);
        }
    }

    private static int lasts(int[] w) {
        int[] byKind = {10, 10 - w[1] / 2, 10, 10 - w[1] / 2 - 2, 15, 10};
        return byKind[w[0]];
    }

    private int takes(int[] w) {
        int plain = w[2] * tells(1, w, 0, 1, 20);
        return w[0] == 3 ? plain + 3 : w[0] == 5 ? plain * 2 : plain;
    }

    private int tells(int part, int[] w, int offBy, int least, int most) {
        int[] values = {dials[0], dials[1], dials[2], w[2], offBy, w[1]};
        int v = reckon(texts.get(rule).get(part), values);
        return v < least ? least : v > most ? most : v;
    }

    // ---- texts

    int feed(int letter) {
        if (letter < 0 || letter > 255) return -2;
        if (tape.length() == 160) return -4;
        tape.append((char) letter);
        return tape.length();
    }

    int text() {
        if (texts.size() == 6) return -4;
        String whole = tape.toString();
        tape = new StringBuilder();
        List<Token> tokens = cut(whole);
        int fault = fault(tokens, whole.length());
        if (fault >= 0) return -100 - fault;
        List<List<String>> parts = new ArrayList<>();
        List<String> part = null;
        for (Token token : tokens) {
            if (token.word.equals("ripens") || token.word.equals("takes") || token.word.equals("spoils")) {
                part = new ArrayList<>();
            } else if (token.word.equals(";")) {
                parts.add(part);
            } else {
                part.add(token.word);
            }
        }
        texts.add(parts);
        return texts.size() - 1;
    }

    private static List<Token> cut(String whole) {
        List<Token> tokens = new ArrayList<>();
        java.util.regex.Matcher m =
                java.util.regex.Pattern.compile("[a-z]+|[0-9]+|[^ \n]", java.util.regex.Pattern.DOTALL).matcher(whole);
        while (m.find()) tokens.add(new Token(m.group(), m.start()));
        return tokens;
    }

    private static boolean isOperand(String w) {
        return NAMES.contains(w) || w.matches("[0-9]{1,4}");
    }

    /** One bracket (the outermost: a part): nots and minuses open in it, whether < or = stood. */
    private static final class Frame {
        int nots = 0, minuses = 0;
        boolean compared = false, notMayStand = true;
    }

    /** -1, or the place of the FAULT; a machine that wants an operand or an operator in turn. */
    private static int fault(List<Token> tokens, int size) {
        int part = 0;
        boolean wantsKey = true, wantsOperand = false;
        List<Frame> frames = new ArrayList<>();
        for (Token token : tokens) {
            String w = token.word;
            if (wantsKey) {
                if (part == 3 || !w.equals(KEYS.get(part))) return token.place;
                wantsKey = false;
                wantsOperand = true;
                frames.clear();
                frames.add(new Frame());
                continue;
            }
            Frame top = frames.get(frames.size() - 1);
            int open = frames.size() - 1;
            for (Frame frame : frames) open += frame.nots + frame.minuses;
            if (wantsOperand) {
                if (isOperand(w)) {
                    top.minuses = 0;
                    wantsOperand = false;
                } else if (w.equals("not") && top.notMayStand && open < 5) {
                    top.nots++;
                } else if (w.equals("-") && open < 5) {
                    top.minuses++;
                    top.notMayStand = false;
                } else if (w.equals("(") && open < 5) {
                    top.notMayStand = false;
                    frames.add(new Frame());
                } else {
                    return token.place;
                }
                if (!wantsOperand) top.notMayStand = false;
            } else if ("+-*".contains(w)) {
                wantsOperand = true;
            } else if (w.equals("<") || w.equals("=")) {
                if (top.compared) return token.place;
                top.compared = true;
                wantsOperand = true;
            } else if (w.equals("or") || w.equals("and")) {
                top.nots = 0;
                top.compared = false;
                top.notMayStand = true;
                wantsOperand = true;
            } else if (w.equals(")") && frames.size() > 1) {
                frames.remove(frames.size() - 1);
                frames.get(frames.size() - 1).minuses = 0;
            } else if (w.equals(";") && frames.size() == 1) {
                part++;
                wantsKey = true;
            } else {
                return token.place;
            }
        }
        return wantsKey && part == 3 ? -1 : size;
    }

    /** The value of the tokens of an E: cut in two at what binds least, the last of its like. */
    private static int reckon(List<String> e, int[] values) {
        int n = e.size();
        for (String word : new String[] {"or", "and"}) {
            int at = lastAtTop(e, word);
            if (at >= 0) {
                boolean left = reckon(e.subList(0, at), values) != 0;
                boolean right = reckon(e.subList(at + 1, n), values) != 0;
                return (word.equals("or") ? left || right : left && right) ? 1 : 0;
            }
        }
        if (e.get(0).equals("not")) return reckon(e.subList(1, n), values) == 0 ? 1 : 0;
        for (String[] signs : new String[][] {{"<", "="}, {"+", "-"}, {"*"}}) {
            int at = -1;
            for (String sign : signs) at = Math.max(at, lastAtTop(e, sign));
            if (at >= 0) {
                int left = reckon(e.subList(0, at), values), right = reckon(e.subList(at + 1, n), values);
                switch (e.get(at)) {
                    case "<": return left < right ? 1 : 0;
                    case "=": return left == right ? 1 : 0;
                    case "+": return left + right;
                    case "-": return left - right;
                    default: return left * right;
                }
            }
        }
        if (e.get(0).equals("-")) return -reckon(e.subList(1, n), values);
        if (e.get(0).equals("(")) return reckon(e.subList(1, n - 1), values);
        int name = NAMES.indexOf(e.get(0));
        return name >= 0 ? values[name] : Integer.parseInt(e.get(0));
    }

    /** The last place outside brackets where a word stands between two operands. */
    private static int lastAtTop(List<String> e, String word) {
        int depth = 0, found = -1;
        for (int i = 0; i < e.size(); i++) {
            String w = e.get(i);
            if (w.equals("(")) depth++;
            if (w.equals(")")) depth--;
            boolean behindOperand = i > 0 && (isOperand(e.get(i - 1)) || e.get(i - 1).equals(")"));
            if (depth == 0 && w.equals(word) && behindOperand) found = i;
        }
        return found;
    }

    int force(int text) {
        if (text < 0 || text >= texts.size()) return -2;
        int was = rule;
        rule = text;
        return was;
    }

    // ---- days

    private int[] plain() {
        int[] order = new int[walls.size()];
        for (int i = 0; i < order.length; i++) order[i] = i;
        return order;
    }

    private void live(int[] order) {
        int n = order.length;
        bad = done = waited = late = early = 0;
        begun = new int[n];
        ripe = new int[n];
        trowelled = new int[n];
        off = new int[n];
        Arrays.fill(begun, -1);
        Arrays.fill(ripe, -1);
        Arrays.fill(trowelled, -1);
        int[] ripens = new int[n], takes = new int[n];
        for (int i = 0; i < n; i++) {
            ripens[i] = ripens(walls.get(i));
            takes[i] = takes(walls.get(i));
        }
        int t = 0, put = 0, left = n;
        while (left > 0 && t < 4000) {
            int best = -1;
            for (int i = put - 1; i >= 0; i--) {
                int w = order[i];
                if (trowelled[w] == -1 && t >= ripe[w] - dials[5] && (best == -1 || ripe[w] <= ripe[best])) best = w;
            }
            if (best != -1) {
                int[] w = walls.get(best);
                int last = ripe[best] + lasts(w);
                off[best] = t > last ? t - last : t < ripe[best] ? t - ripe[best] : 0;
                if (off[best] != 0) bad += tells(2, w, off[best], 0, 999);
                if (off[best] > 0) late |= 1 << best;
                if (off[best] < 0) early |= 1 << best;
                trowelled[best] = t;
                t += w[2];
                left--;
            } else if (put < n && (put == 0 || t >= begun[order[put - 1]] + dials[4])) {
                int w = order[put];
                put++;
                begun[w] = t;
                t += Math.max(1, takes[w] / dials[3]);
                ripe[w] = t + ripens[w];
            } else {
                t++;
                waited++;
            }
        }
        done = t;
    }

    private int ofDay(int what) {
        if (what < 10) return new int[] {bad, done, waited, late, early}[what];
        return new int[][] {begun, ripe, trowelled, off}[what / 10 - 1][what % 10];
    }

    private boolean isOfDay(int what) {
        return what >= 0 && what <= 4 || what >= 10 && what <= 49 && what % 10 < walls.size();
    }

    int day(int what) {
        if (!isOfDay(what)) return NO_DAY;
        live(plain());
        return ofDay(what);
    }

    int order(int sheet, int what) {
        if (noSheet(sheet) || !isOfDay(what) || sheets[sheet] == null) return NO_DAY;
        int[] sorted = sheets[sheet].clone();
        Arrays.sort(sorted);
        if (!Arrays.equals(sorted, plain())) return NO_DAY;
        live(sheets[sheet]);
        return ofDay(what);
    }

    private boolean noSheet(int sheet) {
        return sheet < 0 || sheet > 3;
    }

    // ---- what would be best

    int best(int what) {
        if (what < 0 || what > 2) return -2;
        List<int[]> orders = new ArrayList<>();
        spread(orders, new int[0]);
        int[] least = null;
        for (int[] order : orders) {
            live(order);
            int digits = 0;
            for (int w : order) digits = digits * 10 + w + 1;
            if (least == null || bad < least[0] || bad == least[0] && done < least[1]) {
                least = new int[] {bad, done, digits};
            }
        }
        return least[what];
    }

    private void spread(List<int[]> orders, int[] begin) {
        if (begin.length == walls.size()) {
            orders.add(begin);
            return;
        }
        for (int w = 0; w < walls.size(); w++) {
            boolean in = false;
            for (int b : begin) in |= b == w;
            if (!in) {
                int[] more = Arrays.copyOf(begin, begin.length + 1);
                more[begin.length] = w;
                spread(orders, more);
            }
        }
    }

    int good(int sort, int what) {
        if (sort < 0 || sort > 1 || what < 0 || what > 2) return -2;
        int was = dials[4 + sort];
        int[] least = null;
        for (int v = 0; v <= (sort == 0 ? 60 : 20); v++) {
            dials[4 + sort] = v;
            live(plain());
            if (least == null || bad < least[1] || bad == least[1] && done < least[2]) {
                least = new int[] {v, bad, done};
            }
        }
        dials[4 + sort] = was;
        return least[what];
    }

    int wetting(int c, int what) {
        if (c < 0 || c > 99 || what < 0 || what > 1) return -2;
        List<int[]> was = copyOf(walls);
        int[] least = null;
        for (int bits = 0; bits < 1 << walls.size(); bits++) {
            int cost = 0;
            for (int i = 0; i < walls.size(); i++) {
                walls.get(i)[3] = bits >> i & 1;
                cost += (bits >> i & 1) * c;
            }
            live(plain());
            if (least == null || bad + cost < least[1]) least = new int[] {bits, bad + cost};
        }
        walls = was;
        return least[what];
    }

    int alone() {
        List<int[]> was = walls;
        int greatest = 0;
        for (int n = 0; n <= was.size(); n++) {
            walls = was.subList(0, n);
            live(plain());
            if (bad == 0) greatest = n;
        }
        walls = was;
        return greatest;
    }

    // ---- were it otherwise

    private void liveWith(int dial, int v) {
        int was = dials[dial];
        dials[dial] = v;
        live(plain());
        dials[dial] = was;
    }

    int tooWarm() {
        for (int least = 0; least <= 40; least++) {
            boolean all = true;
            for (int warm = least; warm <= 40 && all; warm++) {
                liveWith(0, warm);
                all = late != 0;
            }
            if (all) return least;
        }
        return -1;
    }

    int gains(int what) {
        if (what == 0) {
            liveWith(2, 9);
            int dirty = bad;
            liveWith(2, 0);
            return dirty - bad;
        }
        if (what == 1) {
            liveWith(3, 1);
            int one = done;
            liveWith(3, 2);
            return one - done;
        }
        return NO_DAY;
    }

    int buckets(int b, int what) {
        if (b < 1 || b > 40 || what < 0 || what > 1) return -2;
        live(plain());
        int mixed = 0, thrown = 0, left = 0, at = 0;
        for (int i = 0; i < walls.size(); i++) {
            int[] w = walls.get(i);
            if (begun[i] < 0) continue;
            if (left >= w[2] && at >= begun[i] - ripens(w)) {
                left -= w[2];
            } else {
                thrown += left;
                left = 0;
                while (left < w[2]) {
                    left += b;
                    mixed++;
                }
                left -= w[2];
                at = begun[i];
            }
        }
        return what == 0 ? mixed : thrown + left;
    }

    // ---- books

    private boolean allSo(int sheet) {
        return Arrays.equals(trowelled, sheets[sheet]);
    }

    int books(int sheet, int what) {
        if (noSheet(sheet) || what < 0 || what > 3 && what < 10 || what - 10 >= walls.size()) return -2;
        if (sheets[sheet] == null) return -11;
        if (sheets[sheet].length != walls.size()) return -2;
        if (what == 0) {
            live(plain());
            int bits = 0;
            for (int i = 0; i < walls.size(); i++) bits |= trowelled[i] == sheets[sheet][i] ? 0 : 1 << i;
            return bits;
        }
        if (what == 1 || what == 2) return (int) dialsSo(sheet, what == 1 ? 2 : 1, 9);
        int bits = 0;
        if (what == 3) {
            int was = rule;
            for (rule = 0; rule < texts.size(); rule++) {
                live(plain());
                if (allSo(sheet)) bits |= 1 << rule;
            }
            rule = was;
            return bits;
        }
        int[] w = walls.get(what - 10);
        int was = w[0];
        for (int kind = 0; kind < 6; kind++) {
            w[0] = kind;
            live(plain());
            if (allSo(sheet)) bits |= 1 << kind;
        }
        w[0] = was;
        return bits;
    }

    private long dialsSo(int sheet, int dial, int most) {
        long bits = 0;
        for (int v = 0; v <= most; v++) {
            liveWith(dial, v);
            if (allSo(sheet)) bits |= 1L << v;
        }
        return bits;
    }

    long warms(int sheet) {
        if (noSheet(sheet) || sheets[sheet] == null || sheets[sheet].length != walls.size()) return NO;
        return dialsSo(sheet, 0, 40);
    }

    int film(int sheet) {
        if (noSheet(sheet)) return -2;
        live(plain());
        sheets[sheet] = trowelled.clone();
        sorts[sheet] = 2;
        return walls.size();
    }

    private static int warmBy(int seed) {
        int z = seed * 1103515245 + 12345;
        return (z >>> 9) % 41;
    }

    int drawn(int seed) {
        liveWith(0, warmBy(seed));
        return bad;
    }

    long chance(int seed, int n, int part) {
        if (n < 1 || n > 20 || part < 0 || part > 1) return NO;
        int fine = 0;
        for (int i = 0; i < n; i++) {
            liveWith(0, warmBy(seed + i));
            if (late == 0) fine++;
        }
        int divisor = java.math.BigInteger.valueOf(fine).gcd(java.math.BigInteger.valueOf(n)).intValue();
        return (part == 0 ? fine : n) / divisor;
    }

    private static List<int[]> copyOf(List<int[]> rows) {
        List<int[]> copy = new ArrayList<>();
        for (int[] row : rows) copy.add(row.clone());
        return copy;
    }

    int image() {
        keptWalls = copyOf(walls);
        keptDials = dials.clone();
        keptRule = rule;
        return walls.size();
    }

    int back() {
        if (keptWalls == null) return -3;
        walls = copyOf(keptWalls);
        dials = keptDials.clone();
        rule = keptRule;
        return walls.size();
    }

    int count(int what) {
        if (what == 0) return walls.size();
        if (what >= 1 && what <= 6) return dials[what - 1];
        return what == 7 ? texts.size() : what == 8 ? tape.length() : what == 9 ? rule : -2;
    }

    // ---- the host

    int sheet(int sheet, int sort, int n) {
        if (noSheet(sheet) || sort < -1 || sort > 2) return -2;
        if (sort >= 0 && n > 40) return -2;
        if (sort >= 0 && n < 0) return -14;
        sheets[sheet] = sort < 0 ? null : new int[n];
        sorts[sheet] = sort;
        return 1;
    }

    int cell(int sheet, int i, int v) {
        if (noSheet(sheet)) return -2;
        if (sheets[sheet] == null) return -11;
        if (i < 0 || i >= sheets[sheet].length) return -12;
        sheets[sheet][i] = sorts[sheet] == 0 ? (byte) v : sorts[sheet] == 1 ? (short) v : v;
        return 1;
    }

    int copy(int sheet, int i, int other, int j, int n) {
        if (noSheet(sheet) || noSheet(other)) return -2;
        if (sheets[sheet] == null || sheets[other] == null) return -11;
        if (sorts[sheet] != sorts[other]) return -13;
        if (n < 0 || i < 0 || j < 0 || (long) i + n > sheets[sheet].length || (long) j + n > sheets[other].length) {
            return -12;
        }
        int[] as = sheets[sheet].clone();
        for (int k = 0; k < n; k++) sheets[other][j + k] = as[i + k];
        return n;
    }

    int walls(int sheet, int sort, int from, int n) {
        if (noSheet(sheet) || sort < 0 || sort > 2 || n < 0 || n > 6) return -2;
        if (sheets[sheet] == null) return -11;
        if (sorts[sheet] != sort) return -13;
        int came = 0;
        for (long at = from; at < from + 3L * n; at += 3) {
            if (at < 0 || at + 2 >= sheets[sheet].length) return -12;
            int[] row = sheets[sheet];
            if (wall(row[(int) at], row[(int) at + 1], row[(int) at + 2]) >= 0) came++;
        }
        return came;
    }

    int taken(int wall, int k) {
        if (k < 0 || k > 5) return -2;
        if (wall < 0 || wall >= walls.size()) return -11;
        for (int kind = walls.get(wall)[0]; kind >= 0; kind = UNDER[kind]) {
            if (kind == k) return walls.get(wall)[1];
        }
        return -13;
    }
}
