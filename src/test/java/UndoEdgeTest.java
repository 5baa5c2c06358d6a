import java.util.ArrayList;
import java.util.List;
import java.util.function.Consumer;

/**
 * The boundary cases of part 4 of the Terms, CHANGES, and of promise 22. What undo takes back is
 * told by all that the hall shows of itself, next to a hall to which the change was never made.
 */
public final class UndoEdgeTest extends HallCheck {

    private static LabelHall made(List<Consumer<LabelHall>> calls) {
        LabelHall x = new LabelHall();
        for (Consumer<LabelHall> call : calls) {
            call.accept(x);
        }
        return x;
    }

    /** All that is asked but how many are kept and how many ever were: undo doesn't take those back. */
    private static List<String> view(List<Consumer<LabelHall>> calls, int things) {
        List<String> lines = View.asked(() -> made(calls), things);
        lines.removeIf(line -> line.startsWith("count(1)") || line.startsWith("count(3)"));
        return lines;
    }

    private static void noneIsKept() {
        says("Promise 22: NO: none.");
        LabelHall x = new LabelHall();
        due("a new object", x.undo(), NO);
        due("kept", x.count(3), 0);
        due("refused: BAD", x.put(0, NONE, false), BAD);
        due("nothing to take back", x.undo(), NO);
        due("row", x.row(0, TIGHT, 4), 0);
        due("refused: NO", x.row(0, TIGHT, 4), NO);
        due("one is kept", x.count(3), 1);
        due("it is taken back", x.undo(), 0);
        due("no more", x.undo(), NO);
        due("no row", x.about(0, 0), BAD);
        due("row of another kind", x.row(0, NESTED, 40), 0);
        due("kind", x.about(0, 0), NESTED);
    }

    private static void theLatestEight() {
        says("The latest 8 are kept.");
        for (int changes = 1; changes <= 40; changes++) {
            LabelHall x = hallWith(TIGHT, 40);
            for (int i = 1; i < changes; i++) {
                x.put(0, NONE, false);
            }
            int kept = Math.min(8, changes);
            due("kept of " + changes, x.count(3), kept);
            for (int left = kept - 1; left >= 0; left--) {
                due("undo", x.undo(), left);
                due("kept", x.count(3), left);
            }
            due("none of " + changes, x.undo(), NO);
            due("rows of " + changes, x.count(5), changes > 8 ? 1 : 0);
            due("things of " + changes, x.count(0), Math.max(0, changes - 9));
        }
    }

    private static void whatIsAChange() {
        says("CHANGES are the calls of row, put, putAt, drop, move, join, split, mark that are not refused.");
        LabelHall x = new LabelHall();
        due("row", x.row(0, TIGHT, 10), 0);
        due("row", x.row(1, TIGHT, 10), 0);
        due("kept", x.count(3), 2);
        due("put", x.put(0, NONE, false), 0);
        due("kept", x.count(3), 3);
        due("mark", x.mark(0, 0, 0, 0), 0);
        due("kept", x.count(3), 4);
        due("putAt", x.putAt(0), 1);
        due("kept", x.count(3), 5);
        due("move", x.move(1, NONE, false), 1);
        due("kept", x.count(3), 6);
        due("split", x.split(1, 1), 1);
        due("kept", x.count(3), 7);
        due("join", x.join(0, 1), 1);
        due("kept", x.count(3), 8);
        for (int left = 7; left >= 4; left--) {
            due("undo", x.undo(), left);
        }
        due("drop", x.drop(0), 1);
        due("kept", x.count(3), 5);
    }

    private static void changesThatDoNothing() {
        says("CHANGES .. that are not refused: also those after which all is the same");
        LabelHall x = line(TIGHT, 10, 2);
        x.row(1, TIGHT, 10);
        x.row(2, TIGHT, 10);
        due("kept", x.count(3), 5);
        due("an empty row joined", x.join(1, 0), 0);
        due("kept", x.count(3), 6);
        due("nothing behind it", x.split(1, 2), 0);
        due("kept", x.count(3), 7);
        due("to where it stands", x.move(1, 0, false), 1);
        due("kept", x.count(3), 8);
        due("undo", x.undo(), 7);
        due("undo", x.undo(), 6);
        due("undo", x.undo(), 5);
        due("two empty ones joined", x.join(1, 2), 0);
        due("kept", x.count(3), 6);
        due("mark", x.mark(0, 0, 1, 1), 0);
        due("the same mark", x.mark(0, 0, 1, 1), 0);
        due("kept", x.count(3), 8);
        due("undo", x.undo(), 7);
        due("the first of the two", x.marked(0), 1);
        due("undo", x.undo(), 6);
        due("none", x.marked(0), BAD);
    }

    private static void undoIsNoChange() {
        says("undo() takes back the latest that is kept");
        LabelHall x = line(TIGHT, 10, 4);
        due("the latest", x.undo(), 4);
        due("3 went", x.rowOf(3), NONE);
        due("the one before it, not the undo", x.undo(), 3);
        due("2 went", x.rowOf(2), NONE);
        due("3 is still gone", x.rowOf(3), NONE);
        due("a new change", x.drop(0), 1);
        due("is the latest", x.undo(), 3);
        order("as before", x, 0, 0, 1);
        due("then the ones before", x.undo(), 2);
        order("as before", x, 0, 0);
    }

    private static void numbers() {
        says("THINGS' numbers are not given again");
        LabelHall x = line(TIGHT, 10, 1);
        due("undo", x.undo(), 1);
        due("gone", x.rowOf(0), NONE);
        due("ever", x.count(1), 1);
        due("in rows", x.count(0), 0);
        due("the next", x.put(0, NONE, false), 1);
        due("mark", x.mark(0, 0, 1, 1), 0);
        due("at a mark", x.putAt(0), 2);
        due("undo", x.undo(), 3);
        due("at a mark", x.putAt(0), 3);
        due("2 is gone", x.rowOf(2), NONE);
        due("none may come behind it", x.put(0, 2, false), BAD);
        due("ever", x.count(1), 4);
        due("the row goes, too", x.undo() + x.undo() + x.undo() + x.undo(), 3 + 2 + 1 + 0);
        due("ever", x.count(1), 4);
        due("no thing stands", x.rowOf(1), NONE);
        due("row", x.row(0, TIGHT, 4), 0);
        due("numbers go on", x.put(0, NONE, false), 4);
    }

    /** Rows of all kinds; rows 4 .. 7 are of the same kinds and have less room. 52 things, then 8 marks. */
    private static List<Consumer<LabelHall>> base() {
        List<Consumer<LabelHall>> calls = new ArrayList<>();
        for (int r = 0; r < 8; r++) {
            int row = r;
            calls.add(x -> x.row(row, row % 4, row < 4 ? 10 : 4));
        }
        for (int i = 0; i < 48; i++) {
            int row = i / 12;
            int behind = i % 12 == 0 ? NONE : i - 1;
            boolean end = row == 3 && i % 3 == 0 && i > 36;
            calls.add(x -> x.put(row, behind, end));
        }
        for (int r = 4; r < 8; r++) {
            int row = r;
            calls.add(x -> x.put(row, NONE, false));
        }
        calls.add(x -> x.mark(0, 0, NONE, 1));
        calls.add(x -> x.mark(1, 1, 23, 0));
        calls.add(x -> x.mark(2, 2, 30, 1));
        calls.add(x -> x.mark(3, 3, 40, 1));
        calls.add(x -> x.mark(4, 3, 47, 0));
        calls.add(x -> x.mark(5, 7, NONE, 1));
        calls.add(x -> x.mark(18, 3, NONE, 0));
        calls.add(x -> x.mark(19, 2, 24, 0));
        return calls;
    }

    /** Changes without new things, so that they answer alike whether others were taken back or not. */
    private static List<Consumer<LabelHall>> changes() {
        List<Consumer<LabelHall>> calls = new ArrayList<>();
        calls.add(x -> x.move(5, NONE, false));
        calls.add(x -> x.mark(6, 2, 33, 0));
        calls.add(x -> x.drop(41));
        calls.add(x -> x.join(0, 4));
        calls.add(x -> x.split(17, 5));
        calls.add(x -> x.move(26, 35, false));
        calls.add(x -> x.join(3, 7));
        calls.add(x -> x.mark(0, 1, 12, 1));
        calls.add(x -> x.drop(30));
        calls.add(x -> x.split(28, 6));
        calls.add(x -> x.move(16, 12, false));
        calls.add(x -> x.join(7, 3));
        return calls;
    }

    private static void eachIsTakenBack() {
        says("all ROWS, labels, BLOCKS, MARKS are as they were (RENAMED, too ..)");
        List<Consumer<LabelHall>> before = base();
        List<String> want = view(before, 52);
        List<Consumer<LabelHall>> tried = new ArrayList<>(changes());
        tried.add(x -> x.put(0, 11, false));
        tried.add(x -> x.put(1, 12, false));
        tried.add(x -> x.put(2, 31, false));
        tried.add(x -> x.put(3, 40, true));
        for (int m = 0; m < 6; m++) {
            int mark = m;
            tried.add(x -> x.putAt(mark));
        }
        for (int i = 0; i < tried.size(); i++) {
            List<Consumer<LabelHall>> after = new ArrayList<>(before);
            after.add(tried.get(i));
            due("change " + i + " shows", view(after, 52).equals(want) ? 1 : 0, 0);
            after.add(LabelHall::undo);
            alike("change " + i, view(after, 52), want);
        }
    }

    private static void rowIsTakenBack() {
        says("all ROWS .. are as they were");
        LabelHall x = line(TIGHT, 10, 1);
        due("row", x.row(7, NESTED, 40), 0);
        due("undo", x.undo(), 2);
        due("no row", x.about(7, 0), BAD);
        due("rows", x.count(5), 1);
        due("no thing may come", x.put(7, NONE, false), BAD);
        due("row", x.row(7, TIGHT, 4), 0);
        due("of another kind", x.about(7, 0), TIGHT);
        due("of another width", x.about(7, 1), 4);
        order("the other row stands", x, 0, 0);
    }

    private static void renamedAndGreatest() {
        says("(RENAMED, too)");
        // A kind, how many come without a dealing, and what the next one makes of RENAMED and about(0, 4).
        int[][] dealing = {{TIGHT, 5, 5, 6}, {SPREAD, 5, 4, 5}, {BLOCKED, 8, 17, 9}, {NESTED, 4, 17, 9}};
        for (int[] d : dealing) {
            LabelHall x = d[0] == NESTED ? siblings(4, 4) : line(d[0], 4, d[1]);
            due("nothing was dealt", x.count(2) + x.about(0, 4), 0);
            due("dealt", x.put(0, d[1] - 1, d[0] == NESTED), d[1]);
            due("renamed", x.count(2), d[2]);
            due("at once", x.about(0, 4), d[3]);
            due("undo", x.undo() >= 0 ? 0 : 1, 0);
            due("renamed as it was", x.count(2), 0);
            due("0 as at first", x.about(0, 4), 0);
            due("blocks as they were", x.about(0, 3), d[0] >= BLOCKED ? 1 : 0);
        }
    }

    /** A walk of changes (d) and undos (u): what shows is as if only the changes left had been made. */
    private static void walk(String steps) {
        List<Consumer<LabelHall>> changes = changes();
        List<Consumer<LabelHall>> all = base();
        List<Consumer<LabelHall>> left = base();
        int kept = 8;
        int next = 0;
        for (char step : steps.toCharArray()) {
            if (step == 'd') {
                all.add(changes.get(next));
                left.add(changes.get(next));
                next = (next + 1) % changes.size();
                kept = Math.min(8, kept + 1);
            } else {
                all.add(LabelHall::undo);
                if (kept > 0) {
                    left.remove(left.size() - 1);
                    kept--;
                }
            }
        }
        due(steps + ": kept", made(all).count(3), kept);
        alike(steps, view(all, 52), view(left, 52));
    }

    private static void walks() {
        says("undo() takes back the latest that is kept; The latest 8 are kept.");
        StringBuilder changes = new StringBuilder();
        for (int n = 0; n <= 12; n++) {
            StringBuilder undos = new StringBuilder();
            for (int u = 0; u <= 10; u++) {
                walk(changes.toString() + undos);
                undos.append('u');
            }
            changes.append('d');
        }
        walk("dudududududududududududu");
        walk("dduddudduddudduuuuuuuu");
        walk("uuuuuuuudddddddd");
        walk("uuuuuuuuddduuuuuddd");
        walk("dduuuuudddduuuuuuuuuuu");
        walk("dddddddddddduuuuuuuuuudddddddddddduuuuuuuu");
    }

    public static void main(String[] args) {
        begin("UndoEdgeTest");
        noneIsKept();
        theLatestEight();
        whatIsAChange();
        changesThatDoNothing();
        undoIsNoChange();
        numbers();
        eachIsTakenBack();
        rowIsTakenBack();
        renamedAndGreatest();
        walks();
        end();
    }
}
