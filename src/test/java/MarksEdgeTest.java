/**
 * The boundary cases of part 3 of the Terms, MARKS, and of the promises 19 to 21, a method a
 * sentence; the answers were worked out by hand.
 */
public final class MarksEdgeTest extends HallCheck {
    private static final int END = 1000;

    private static void twentyMarks() {
        says("MARKS 0 .. 19 are none or each a place of a ROW");
        LabelHall x = line(TIGHT, 10, 1);
        for (int m = 0; m < 20; m++) {
            due("marked(" + m + ") at first", x.marked(m), BAD);
            due("putAt(" + m + ") at first", x.putAt(m), BAD);
        }
        due("none", x.count(4), 0);
        for (int m = 0; m < 20; m++) {
            due("mark " + m, x.mark(m, 0, m % 2 == 0 ? 0 : NONE, m % 2), 0);
            due("marks", x.count(4), m + 1);
        }
        for (int m = 0; m < 20; m++) {
            due("marked(" + m + ")", x.marked(m), m % 2 == 0 ? 0 : NONE);
        }
        due("mark -1", x.mark(-1, 0, 0, 0), BAD);
        due("mark 20", x.mark(20, 0, 0, 0), BAD);
        due("marked(-1)", x.marked(-1), BAD);
        due("marked(20)", x.marked(20), BAD);
        due("putAt(-1)", x.putAt(-1), BAD);
        due("putAt(20)", x.putAt(20), BAD);
    }

    private static void anew() {
        says("Promise 19: A MARK (anew, if it is there)");
        LabelHall x = line(TIGHT, 10, 2);
        x.row(1, TIGHT, 10);
        due("mark", x.mark(19, 0, 1, 0), 0);
        due("the same once more", x.mark(19, 0, 1, 0), 0);
        due("one mark", x.count(4), 1);
        due("in another row, leaning the other way", x.mark(19, 1, NONE, 1), 0);
        due("one mark", x.count(4), 1);
        due("where it is", x.marked(19), NONE);
        due("it is not in row 0", x.put(0, 1, false), 2);
        due("where it is", x.marked(19), NONE);
        due("put at it", x.putAt(19), 3);
        due("in row 1", x.rowOf(3), 1);
        due("it leans right", x.marked(19), 3);
    }

    private static void leans() {
        says("LEAN left (0) or right (1)");
        LabelHall x = line(TIGHT, 10, 1);
        due("lean -1", x.mark(0, 0, 0, -1), BAD);
        due("lean 2", x.mark(0, 0, 0, 2), BAD);
        due("lean 0", x.mark(0, 0, 0, 0), 0);
        due("lean 1", x.mark(1, 0, 0, 1), 0);
        due("right behind it", x.put(0, 0, false), 1);
        says("a MARK that LEANS left stays");
        due("left", x.marked(0), 0);
        says("one that LEANS right is right behind the new one from then on");
        due("right", x.marked(1), 1);
        due("behind the new one", x.put(0, 1, false), 2);
        due("left", x.marked(0), 0);
        due("right", x.marked(1), 2);
        due("no more right behind it", x.put(0, 0, false), 3);
        due("left", x.marked(0), 0);
        due("right", x.marked(1), 2);
    }

    private static void atTheBeginning() {
        says("(or to the beginning, where it is)");
        for (int kind = TIGHT; kind <= NESTED; kind++) {
            int end = kind == NESTED ? END : 0;
            LabelHall x = hallWith(kind, 10);
            x.row(1, kind, 10);
            due("left", x.mark(0, 0, NONE, 0), 0);
            due("right", x.mark(1, 0, NONE, 1), 0);
            due("right, in another row", x.mark(2, 1, NONE, 1), 0);
            due("the row is empty", x.marked(0), NONE);
            due("the row is empty", x.marked(1), NONE);
            due("the first thing", x.put(0, NONE, false), 0);
            due("left", x.marked(0), NONE);
            due("right", x.marked(1), end);
            due("in another row", x.marked(2), NONE);
            due("right at the beginning again", x.mark(1, 0, NONE, 1), 0);
            due("behind 0", x.put(0, 0, false), 1);
            due("that is not the beginning", x.marked(1), NONE);
            due("at the beginning", x.put(0, NONE, false), 2);
            due("left", x.marked(0), NONE);
            due("right", x.marked(1), end + 2);
        }
    }

    private static void endsCome() {
        says("When a new THING or END comes right behind what a MARK is right behind");
        LabelHall x = line(NESTED, 10, 1);
        due("left", x.mark(0, 0, 0, 0), 0);
        due("right", x.mark(1, 0, 0, 1), 0);
        due("within 0", x.put(0, 0, false), 1);
        due("left", x.marked(0), 0);
        due("right: behind 1, then behind its END", x.marked(1), END + 1);
        due("behind that END", x.put(0, 1, true), 2);
        due("right goes on", x.marked(1), END + 2);
        due("within 2, not behind its END", x.put(0, 2, false), 3);
        due("right stays", x.marked(1), END + 2);
        due("behind the END of 0", x.put(0, 0, true), 4);
        due("right stays", x.marked(1), END + 2);
        due("left stays", x.marked(0), 0);
    }

    private static void goesToTheBeginning() {
        says("If what a MARK is behind goes, it is behind what stood ahead of that (or at the beginning)");
        LabelHall x = line(TIGHT, 10, 3);
        for (int m = 0; m < 6; m++) {
            due("mark", x.mark(m, 0, m / 2, m % 2), 0);
        }
        due("the middle one goes", x.drop(1), 1);
        int[] want = {0, 0, 0, 0, 2, 2};
        for (int m = 0; m < 6; m++) {
            due("mark " + m, x.marked(m), want[m]);
        }
        due("the first one goes", x.drop(0), 1);
        for (int m = 0; m < 6; m++) {
            due("mark " + m, x.marked(m), m < 4 ? NONE : 2);
        }
        due("the last one goes", x.drop(2), 1);
        for (int m = 0; m < 6; m++) {
            due("mark " + m, x.marked(m), NONE);
        }
        due("they are still there", x.count(4), 6);
        due("put at one of them", x.putAt(5), 3);
        due("left", x.marked(0), NONE);
        due("right", x.marked(1), 3);
    }

    private static void goesInARowBehindAnother() {
        says("(or at the beginning): of its own ROW");
        LabelHall x = line(SPREAD, 10, 2);
        x.row(1, SPREAD, 10);
        x.row(2, SPREAD, 10);
        due("put", x.put(1, NONE, false), 2);
        due("put", x.put(2, NONE, false), 3);
        due("left", x.mark(0, 1, 2, 0), 0);
        due("right", x.mark(1, 1, 2, 1), 0);
        due("of the row behind", x.mark(2, 2, 3, 1), 0);
        due("the first one of row 1 goes", x.drop(2), 1);
        due("left", x.marked(0), NONE);
        due("right", x.marked(1), NONE);
        due("of the row behind", x.marked(2), 3);
        due("put at the beginning of row 1", x.putAt(0), 4);
        due("row 1", x.rowOf(4), 1);
        due("right", x.marked(1), 4);
        due("behind the last of row 0", x.put(0, 1, false), 5);
        due("left", x.marked(0), NONE);
    }

    private static void goesBehindAnEnd() {
        says("it is behind what stood ahead of that: an END");
        LabelHall x = family();
        due("behind 3", x.mark(0, 0, 3, 0), 0);
        due("behind 4", x.mark(1, 0, 4, 0), 0);
        due("behind 2, within 1", x.mark(2, 0, 2, 1), 0);
        due("3 goes", x.drop(3), 1);
        due("behind the END of 1", x.marked(0), END + 1);
        due("4 goes", x.drop(4), 1);
        due("behind the END of 0", x.marked(1), END);
        due("1 goes, with 2 and both ENDS", x.drop(1), 2);
        due("from an END to what stood ahead of 1", x.marked(0), 0);
        due("from within", x.marked(2), 0);
        due("elsewhere", x.marked(1), END);
        due("0 goes", x.drop(0), 1);
        for (int m = 0; m < 3; m++) {
            due("the beginning", x.marked(m), NONE);
        }
    }

    private static void movedAwayAndBack() {
        says("Promise 5: goes from where it stands, and comes .. each a new one between two");
        LabelHall x = line(TIGHT, 10, 3);
        due("left", x.mark(0, 0, 1, 0), 0);
        due("right", x.mark(1, 0, 1, 1), 0);
        due("1 moves to where it stands", x.move(1, 0, false), 1);
        due("left is behind what stood ahead", x.marked(0), 0);
        due("right came behind it again", x.marked(1), 1);
        due("1 moves to the beginning", x.move(1, NONE, false), 1);
        due("left", x.marked(0), 0);
        due("right falls back", x.marked(1), 0);
        due("0 moves to the end", x.move(0, 2, false), 1);
        due("left", x.marked(0), 1);
        due("right", x.marked(1), 1);
    }

    private static void joined() {
        says("Promise 6: the first ROW is empty then, its MARKS are at its beginning");
        for (int kind = TIGHT; kind <= NESTED; kind++) {
            int end = kind == NESTED ? END : 0;
            LabelHall x = line(kind, 10, 2);
            x.row(1, kind, 10);
            due("left", x.mark(0, 0, 1, 0), 0);
            due("right", x.mark(1, 0, 0, 1), 0);
            due("left, to come to", x.mark(2, 1, NONE, 0), 0);
            due("right, to come to", x.mark(3, 1, NONE, 1), 0);
            due("join", x.join(0, 1), 2);
            due("left", x.marked(0), NONE);
            due("right", x.marked(1), NONE);
            due("left, empty", x.marked(2), NONE);
            due("right, empty: behind all that came", x.marked(3), kind == NESTED ? end : 1);
            due("an empty one comes", x.join(0, 1), 0);
            due("right stays", x.marked(3), kind == NESTED ? end : 1);
            due("its marks are of the first row still", x.putAt(1), 2);
            due("row", x.rowOf(2), 0);
            due("right", x.marked(1), end + 2);
        }
    }

    private static void split() {
        says("Promise 7: All that stands behind a THING .. comes likewise: its MARKS fall back");
        LabelHall x = line(SPREAD, 10, 4);
        x.row(1, SPREAD, 10);
        due("right, of what goes", x.mark(0, 0, 3, 1), 0);
        due("right, of what stays", x.mark(1, 0, 1, 1), 0);
        due("split", x.split(1, 1), 2);
        due("falls back", x.marked(0), 1);
        due("stays", x.marked(1), 1);
        LabelHall y = family();
        y.row(1, NESTED, 10);
        due("behind 4", y.mark(0, 0, 4, 1), 0);
        due("split", y.split(0, 1), 1);
        due("behind the END of 0", y.marked(0), END);
    }

    private static void numbersOfEnds() {
        says("Promise 20: a THING, or NONE at the beginning; 1000 and the THING, if that is its END");
        LabelHall x = hallWith(NESTED, 40);
        due("mark", x.mark(0, 0, NONE, 1), 0);
        due("the first", x.put(0, NONE, false), 0);
        due("1000 and 0", x.marked(0), 1000);
        for (int i = 1; i < 299; i++) {
            due("put", x.put(0, i - 1, false), i);
        }
        due("mark", x.mark(1, 0, 298, 1), 0);
        due("the THING 298", x.marked(1), 298);
        due("the last one that there can be", x.put(0, 298, false), 299);
        due("1000 and 299", x.marked(1), 1299);
        due("mark", x.mark(2, 0, 299, 1), 0);
        due("the THING 299", x.marked(2), 299);
    }

    private static void putAtMarks() {
        says("Promise 21: A new THING at a MARK, as put() would right behind what it is behind.");
        LabelHall x = hallWith(TIGHT, 10);
        due("left", x.mark(0, 0, NONE, 0), 0);
        due("in an empty row", x.putAt(0), 0);
        due("ahead of that", x.putAt(0), 1);
        due("right", x.mark(1, 0, 1, 1), 0);
        due("behind 1", x.putAt(1), 2);
        due("behind that", x.putAt(1), 3);
        order("4", x, 0, 1, 2, 3, 0);
        due("what it is behind goes", x.drop(3), 1);
        due("behind what stood ahead", x.putAt(1), 4);
        order("4", x, 0, 1, 2, 4, 0);
        due("put at the last", x.mark(2, 0, 0, 0), 0);
        due("to the end", x.putAt(2), 5);
        order("5", x, 0, 1, 2, 4, 0, 5);
        LabelHall y = line(NESTED, 10, 2);
        due("behind 1", y.mark(0, 0, 1, 1), 0);
        due("within 1", y.putAt(0), 2);
        due("within 1", y.near(2, 2), 1);
        due("1 goes", y.drop(1), 2);
        due("behind 0", y.marked(0), 0);
        due("within 0", y.putAt(0), 3);
        due("within 0", y.near(3, 2), 0);
        due("behind the END of 3", y.putAt(0), 4);
        due("not within 3", y.near(4, 2), 0);
    }

    private static void ofTheMixedHall() {
        says("Promise 20: BAD: there is no such MARK.");
        LabelHall x = mixedHall();
        for (int mark : NO_MARKS) {
            due("marked(" + mark + ")", x.marked(mark), BAD);
        }
        due("marks", x.count(4), 4);
    }

    public static void main(String[] args) {
        begin("MarksEdgeTest");
        twentyMarks();
        anew();
        leans();
        atTheBeginning();
        endsCome();
        goesToTheBeginning();
        goesInARowBehindAnother();
        goesBehindAnEnd();
        movedAwayAndBack();
        joined();
        split();
        numbersOfEnds();
        putAtMarks();
        ofTheMixedHall();
        end();
    }
}
