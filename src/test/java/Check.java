/** Counts and prints the calls whose answers are not due. */
final class Check {
    private int wrong = 0;

    void due(String call, long got, long want) {
        if (got != want) {
            wrong++;
            System.out.println(call + " answered " + got + ", due is " + want);
        }
    }

    void end() {
        if (wrong != 0) {
            System.out.println(wrong + " answers are not as due");
            System.exit(1);
        }
    }

    /** THE TAPE gets a text, and becomes a TEXT. */
    static int learn(BeforeItGoes x, String text) {
        for (int i = 0; i < text.length(); i++) {
            x.feed(text.charAt(i));
        }
        return x.text();
    }

    /** A new object whose RULE is a text. */
    static BeforeItGoes ruled(String text) {
        BeforeItGoes x = new BeforeItGoes();
        x.force(learn(x, text));
        return x;
    }

    /** A SHEET becomes a row of these, of a sort. */
    static void fill(BeforeItGoes x, int sheet, int sort, int... items) {
        x.sheet(sheet, sort, items.length);
        for (int i = 0; i < items.length; i++) {
            x.cell(sheet, i, items[i]);
        }
    }

    /** What day() answers of whats. */
    void dayDue(BeforeItGoes x, int[]... whatsAndDue) {
        for (int[] pair : whatsAndDue) {
            due("day(" + pair[0] + ")", x.day(pair[0]), pair[1]);
        }
    }
}
