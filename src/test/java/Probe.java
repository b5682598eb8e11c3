import java.util.ArrayList;
import java.util.List;

/**
 * All that an object lets be seen, as one text: two objects that were led alike answer alike. It uses
 * the object up (THE TAPE, THE RULE, the IMAGE and the WALLS are others behind it), by some 200 calls.
 *
 * <p>SHEETS are read as WALLS, three by three, so their items should lie in 1 .. 5.
 */
final class Probe {
    private final BeforeItGoes x;
    private final List<Object> seen = new ArrayList<>();
    private final int[] sorts = new int[4], sizes = new int[4];

    private Probe(BeforeItGoes x) {
        this.x = x;
    }

    static String of(BeforeItGoes x) {
        Probe probe = new Probe(x);
        probe.site();
        for (int sheet = 0; sheet < 4; sheet++) {
            probe.shape(sheet);
        }
        probe.seen.add("back " + x.back());
        probe.site();
        x.image();
        for (int sheet = 0; sheet < 4; sheet++) {
            probe.items(sheet);
        }
        probe.texts();
        return probe.seen.toString();
    }

    private void site() {
        for (int what = 0; what < 10; what++) {
            seen.add(x.count(what));
        }
        for (int wall = 0; wall < Math.min(6, x.count(0) + 1); wall++) {
            for (int what = 0; what < 4; what++) {
                seen.add(x.told(wall, what));
            }
        }
        seen.add(x.day(0) + " " + x.day(1));
    }

    private void shape(int sheet) {
        sorts[sheet] = -1;
        for (int sort = 0; sort < 3; sort++) {
            sorts[sheet] = x.walls(sheet, sort, 0, 0) == 0 ? sort : sorts[sheet];
        }
        // numbers that come to where they are change nothing
        for (int n : new int[] {0, 1, 2, 3, 6, 7, 8, 40}) {
            sizes[sheet] = x.copy(sheet, 0, sheet, 0, n) == n ? n : sizes[sheet];
        }
        seen.add("sheet " + sheet + " sort " + sorts[sheet] + " size " + sizes[sheet]);
        seen.add(x.order(sheet, 1) + " " + x.books(sheet, 0));
    }

    private void items(int sheet) {
        int last = sizes[sheet] - 3;
        for (int i = 0; sorts[sheet] >= 0 && i <= last; i = i < last ? Math.min(i + 3, last) : last + 1) {
            seen.add(x.walls(sheet, sorts[sheet], i, 1));
            int wall = x.count(0) - 1;
            seen.add(x.told(wall, 0) + " " + x.told(wall, 1) + " " + x.told(wall, 2));
            x.back();
        }
    }

    /** What stands on THE TAPE is seen by the TEXT that it is; each TEXT by what it tells of a WALL. */
    private void texts() {
        seen.add("text " + x.text());
        seen.add("wall " + x.wall(0, 3, 4));
        for (int rule = 0; rule < x.count(7); rule++) {
            seen.add(x.force(rule) + " " + x.told(0, 4) + " " + x.told(0, 6) + " " + x.day(0));
        }
    }
}
