import java.util.List;

/**
 * What the tests of single answers share: the document's numbers, small halls, and looks at whole
 * rows. Tests extend it, for its short names.
 */
class HallCheck {
    static final int NONE = -1, BAD = -3, NO = -4, FULL = -5;
    static final int TIGHT = 0, SPREAD = 1, BLOCKED = 2, NESTED = 3;
    static final int LEAST = Integer.MIN_VALUE, GREATEST = Integer.MAX_VALUE;

    /** What there is none of in the mixed hall: never made, taken back, gone, or out of all bounds. */
    static final int[] NO_ROWS = {LEAST, -1, 5, 6, 8, GREATEST};
    static final int[] NO_THINGS = {LEAST, -2, 9, 10, 11, 12, 299, 300, GREATEST};
    static final int[] NO_MARKS = {LEAST, -1, 4, 5, 20, GREATEST};

    private static Check check;
    private static String sentence = "";

    static void begin(String name) {
        check = new Check(name);
    }

    /** The sentence of the document that the answers from here on belong to. */
    static void says(String text) {
        sentence = "\"" + text + "\" ";
    }

    static void due(String call, long got, long want) {
        check.due(sentence + call, got, want);
    }

    static void end() {
        check.end();
    }

    static LabelHall hallWith(int kind, int width) {
        LabelHall x = new LabelHall();
        due("row(0, " + kind + ", " + width + ")", x.row(0, kind, width), 0);
        return x;
    }

    /** Row 0 with n things, each right behind the one before (in a nested row: within it). */
    static LabelHall line(int kind, int width, int n) {
        LabelHall x = hallWith(kind, width);
        for (int i = 0; i < n; i++) {
            due("line: put " + i, x.put(0, i - 1, false), i);
        }
        return x;
    }

    /** Row 0 with n things, each at the beginning as it comes. */
    static LabelHall backwards(int kind, int width, int n) {
        LabelHall x = hallWith(kind, width);
        for (int i = 0; i < n; i++) {
            due("backwards: put " + i, x.put(0, NONE, false), i);
        }
        return x;
    }

    /** Row 0 is nested, with n things, each behind the END of the one before. */
    static LabelHall siblings(int width, int n) {
        LabelHall x = hallWith(NESTED, width);
        for (int i = 0; i < n; i++) {
            due("siblings: put " + i, x.put(0, i - 1, i > 0), i);
        }
        return x;
    }

    /** Row 0 is nested: 0 has 1 and 3 within it, 1 has 2; 4 stands behind 0. */
    static LabelHall family() {
        LabelHall x = line(NESTED, 20, 3);
        due("family: put 3", x.put(0, 1, true), 3);
        due("family: put 4", x.put(0, 0, true), 4);
        return x;
    }

    /**
     * Rows of all kinds with two things each; in row 3 8 is within 7, and 7 within 6. 9 was dropped,
     * and 10 with it; 11, row 6 and mark 5 were taken back; row 5 and mark 4 never were.
     */
    static void mixed(LabelHall x) {
        int[] kinds = {TIGHT, SPREAD, BLOCKED, NESTED, NESTED};
        for (int r = 0; r < kinds.length; r++) {
            x.row(r, kinds[r], r < 3 ? 4 : 9);
        }
        for (int r = 0; r < 3; r++) {
            x.put(r, NONE, false);
            x.put(r, 2 * r, false);
        }
        x.put(3, NONE, false);
        x.put(3, 6, false);
        x.put(3, 7, false);
        x.put(3, 6, true);
        x.put(3, 9, false);
        x.mark(0, 0, 1, 1);
        x.mark(1, 1, NONE, 0);
        x.mark(2, 3, 8, 1);
        x.mark(3, 3, NONE, 1);
        x.drop(9);
        x.put(0, 1, false);
        x.undo();
        x.row(6, TIGHT, 4);
        x.undo();
        x.mark(5, 0, 0, 0);
        x.undo();
        x.row(7, TIGHT, 4);
    }

    static LabelHall mixedHall() {
        LabelHall x = new LabelHall();
        mixed(x);
        return x;
    }

    static void order(String what, LabelHall x, int row, int... things) {
        due(what + ": things in row " + row, x.about(row, 2), things.length);
        for (int i = 0; i < things.length; i++) {
            due(what + ": at(" + row + ", " + i + ")", x.at(row, i), things[i]);
            due(what + ": index(" + things[i] + ")", x.index(things[i]), i);
        }
        due(what + ": at the end", x.at(row, things.length), NONE);
    }

    static void labels(String what, LabelHall x, int row, long... labels) {
        for (int i = 0; i < labels.length; i++) {
            due(what + ": label " + i, x.label(x.at(row, i), false), labels[i]);
        }
    }

    static void inners(String what, LabelHall x, int row, int... inners) {
        for (int i = 0; i < inners.length; i++) {
            due(what + ": inner " + i, x.inner(x.at(row, i), false), inners[i]);
        }
    }

    /** That two views are the same; where they are not, the first line that differs is told. */
    static void alike(String what, List<String> got, List<String> want) {
        String differs = "";
        for (int i = 0; i < want.size() && differs.isEmpty(); i++) {
            if (i >= got.size() || !got.get(i).equals(want.get(i))) {
                differs = ": " + (i < got.size() ? got.get(i) : "nothing") + " where due is " + want.get(i);
            }
        }
        due(what + differs, differs.isEmpty() && got.size() == want.size() ? 1 : 0, 1);
    }
}
