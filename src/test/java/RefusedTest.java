import java.util.ArrayList;
import java.util.List;
import java.util.function.Consumer;
import java.util.function.ToLongFunction;

/**
 * "A call that is refused answers one of BAD, NO, FULL, of several the one that stands first here,
 * and changes nothing." Every reason to refuse is tried; all that the hall shows of itself is
 * compared with a hall to which the call was not made, at once and after each of the undos.
 */
public final class RefusedTest extends HallCheck {

    /** A state of the hall, as the calls that lead to it, and how many things ever were there. */
    private static final class Scene {
        final String name;
        final int things;
        final Consumer<LabelHall> calls;
        final List<List<String>> untouched = new ArrayList<>();

        Scene(String name, int things, Consumer<LabelHall> calls) {
            this.name = name;
            this.things = things;
            this.calls = calls;
            for (int undos = 0; undos <= 9; undos++) {
                int n = undos;
                untouched.add(View.asked(() -> made(x -> 0, n), things));
            }
            untouched.add(View.tried(() -> made(x -> 0, 0)));
            due(name + ": things that ever were", made(x -> 0, 0).count(1), things);
        }

        LabelHall made(ToLongFunction<LabelHall> call, int undos) {
            LabelHall x = new LabelHall();
            calls.accept(x);
            call.applyAsLong(x);
            for (int n = 0; n < undos; n++) {
                x.undo();
            }
            return x;
        }

        void refuses(long answer, String what, ToLongFunction<LabelHall> call) {
            String said = name + ": " + what;
            due(said, call.applyAsLong(made(x -> 0, 0)), answer);
            for (int undos = 0; undos <= 9; undos++) {
                int n = undos;
                alike(said + ", " + n + " undos", View.asked(() -> made(call, n), things), untouched.get(n));
            }
            alike(said + ", tried", View.tried(() -> made(call, 0)), untouched.get(10));
        }
    }

    private static void row(Scene s) {
        says("Promise 2: A ROW is of a KIND and WIDTH, and empty: 0. BAD; NO: there is that ROW.");
        for (int r : new int[] {LEAST, -1, 8, GREATEST}) {
            s.refuses(BAD, "row(" + r + ", 0, 4)", x -> x.row(r, TIGHT, 4));
        }
        for (int kind : new int[] {LEAST, -1, 4, GREATEST}) {
            s.refuses(BAD, "row(5, " + kind + ", 4)", x -> x.row(5, kind, 4));
        }
        for (int width : new int[] {LEAST, -1, 0, 3, 41, GREATEST}) {
            s.refuses(BAD, "row(5, 0, " + width + ")", x -> x.row(5, TIGHT, width));
        }
        s.refuses(NO, "row(0, 0, 4): the same", x -> x.row(0, TIGHT, 4));
        s.refuses(NO, "row(7, 3, 40): an empty one", x -> x.row(7, NESTED, 40));
        says("of several the one that stands first here");
        s.refuses(BAD, "row(0, 4, 4): BAD ahead of NO", x -> x.row(0, 4, 4));
        s.refuses(BAD, "row(0, 0, 3): BAD ahead of NO", x -> x.row(0, TIGHT, 3));
    }

    private static void put(Scene s) {
        says("Promise 3: BAD: there is no such ROW, or THING in it");
        for (int r : NO_ROWS) {
            s.refuses(BAD, "put(" + r + ", -1, false)", x -> x.put(r, NONE, false));
            s.refuses(BAD, "put(" + r + ", 0, false)", x -> x.put(r, 0, false));
        }
        for (int thing : NO_THINGS) {
            s.refuses(BAD, "put(0, " + thing + ", false)", x -> x.put(0, thing, false));
            s.refuses(BAD, "put(3, " + thing + ", true)", x -> x.put(3, thing, true));
        }
        s.refuses(BAD, "put(0, 2, false): of another row", x -> x.put(0, 2, false));
        s.refuses(BAD, "put(4, 6, false): of another row of the kind", x -> x.put(4, 6, false));
        s.refuses(BAD, "put(4, 6, true): of another row of the kind", x -> x.put(4, 6, true));
        s.refuses(BAD, "put(7, 0, false): an empty row", x -> x.put(7, 0, false));
        says("Promise 3: BAD: .. end in a ROW that is not NESTED (or with NONE)");
        for (int r = 0; r < 3; r++) {
            int in = r;
            s.refuses(BAD, "put(" + r + ", " + 2 * r + ", true)", x -> x.put(in, 2 * in, true));
        }
        for (int r = 0; r < 5; r++) {
            int in = r;
            s.refuses(BAD, "put(" + r + ", -1, true)", x -> x.put(in, NONE, true));
        }
    }

    private static void drop(Scene s) {
        says("Promise 4: how many THINGS went. BAD.");
        s.refuses(BAD, "drop(-1)", x -> x.drop(-1));
        for (int thing : NO_THINGS) {
            s.refuses(BAD, "drop(" + thing + ")", x -> x.drop(thing));
        }
    }

    private static void move(Scene s) {
        says("Promise 5: BAD: things, end (as in put()), the other one is in another ROW");
        s.refuses(BAD, "move(-1, -1, false)", x -> x.move(-1, NONE, false));
        for (int thing : NO_THINGS) {
            s.refuses(BAD, "move(" + thing + ", -1, false)", x -> x.move(thing, NONE, false));
            s.refuses(BAD, "move(0, " + thing + ", false)", x -> x.move(0, thing, false));
            s.refuses(BAD, "move(6, " + thing + ", true)", x -> x.move(6, thing, true));
        }
        for (int t = 0; t < 6; t += 2) {
            int thing = t;
            s.refuses(BAD, "move(" + t + ", " + (t + 1) + ", true)", x -> x.move(thing, thing + 1, true));
        }
        for (int t = 0; t < 8; t += 2) {
            int thing = t;
            s.refuses(BAD, "move(" + t + ", -1, true)", x -> x.move(thing, NONE, true));
        }
        s.refuses(BAD, "move(0, 2, false): another row", x -> x.move(0, 2, false));
        s.refuses(BAD, "move(8, 4, false): another row", x -> x.move(8, 4, false));
        says("Promise 5: NO: the other one is itself or WITHIN it");
        s.refuses(NO, "move(0, 0, false): itself", x -> x.move(0, 0, false));
        s.refuses(NO, "move(8, 8, false): itself", x -> x.move(8, 8, false));
        s.refuses(NO, "move(8, 8, true): itself, its END", x -> x.move(8, 8, true));
        s.refuses(NO, "move(6, 7, false): within it", x -> x.move(6, 7, false));
        s.refuses(NO, "move(6, 8, false): deeper within it", x -> x.move(6, 8, false));
        s.refuses(NO, "move(6, 8, true): an END within it", x -> x.move(6, 8, true));
        says("of several the one that stands first here");
        s.refuses(BAD, "move(0, 0, true): BAD ahead of NO", x -> x.move(0, 0, true));
    }

    private static void joinAndSplit(Scene s) {
        says("Promise 6: BAD: rows, the same one");
        for (int r : NO_ROWS) {
            s.refuses(BAD, "join(" + r + ", 0)", x -> x.join(r, 0));
            s.refuses(BAD, "join(0, " + r + ")", x -> x.join(0, r));
            s.refuses(BAD, "join(" + r + ", " + r + ")", x -> x.join(r, r));
            s.refuses(BAD, "split(0, " + r + ")", x -> x.split(0, r));
        }
        s.refuses(BAD, "join(0, 0): the same one", x -> x.join(0, 0));
        s.refuses(BAD, "join(7, 7): the same one, empty", x -> x.join(7, 7));
        says("Promise 6: NO: they are of unlike KINDS");
        for (int r = 0; r < 4; r++) {
            for (int o = 0; o < 4; o++) {
                int from = r;
                int to = o;
                if (r != o) {
                    s.refuses(NO, "join(" + r + ", " + o + ")", x -> x.join(from, to));
                    s.refuses(NO, "split(" + 2 * r + ", " + o + ")", x -> x.split(2 * from, to));
                }
            }
        }
        s.refuses(NO, "join(7, 1): an empty one", x -> x.join(7, 1));
        s.refuses(NO, "split(1, 1): nothing behind it", x -> x.split(1, 1));
        says("Promise 7: BAD: thing, row, the same row");
        s.refuses(BAD, "split(-1, 7)", x -> x.split(-1, 7));
        for (int thing : NO_THINGS) {
            s.refuses(BAD, "split(" + thing + ", 7)", x -> x.split(thing, 7));
        }
        s.refuses(BAD, "split(0, 0)", x -> x.split(0, 0));
        s.refuses(BAD, "split(1, 0): nothing behind it", x -> x.split(1, 0));
        says("Promise 7: NO: KINDS, WITHIN one");
        s.refuses(NO, "split(7, 4): within 6", x -> x.split(7, 4));
        s.refuses(NO, "split(8, 4): within 7 and 6", x -> x.split(8, 4));
        says("of several the one that stands first here");
        s.refuses(BAD, "split(7, 3): BAD, the same row, ahead of NO", x -> x.split(7, 3));
        s.refuses(BAD, "split(7, 5): BAD, no row, ahead of NO", x -> x.split(7, 5));
    }

    private static void marks(Scene s) {
        says("Promise 19: BAD: mark, row, thing not in it, lean.");
        for (int mark : new int[] {LEAST, -1, 20, GREATEST}) {
            s.refuses(BAD, "mark(" + mark + ", 0, 0, 0)", x -> x.mark(mark, 0, 0, 0));
        }
        for (int r : NO_ROWS) {
            s.refuses(BAD, "mark(0, " + r + ", -1, 0)", x -> x.mark(0, r, NONE, 0));
        }
        for (int thing : NO_THINGS) {
            s.refuses(BAD, "mark(0, 0, " + thing + ", 0)", x -> x.mark(0, 0, thing, 0));
        }
        s.refuses(BAD, "mark(0, 1, 0, 0): not in it", x -> x.mark(0, 1, 0, 0));
        s.refuses(BAD, "mark(0, 7, 0, 0): not in an empty one", x -> x.mark(0, 7, 0, 0));
        for (int lean : new int[] {LEAST, -1, 2, GREATEST}) {
            s.refuses(BAD, "mark(0, 0, 0, " + lean + ")", x -> x.mark(0, 0, 0, lean));
        }
        says("Promise 21: A new THING at a MARK .. BAD; FULL.");
        for (int mark : NO_MARKS) {
            s.refuses(BAD, "putAt(" + mark + ")", x -> x.putAt(mark));
        }
    }

    private static void fullTight() {
        Scene s = new Scene("16 in a TIGHT row of width 4", 16, x -> {
            x.row(0, TIGHT, 4);
            for (int i = 0; i < 16; i++) {
                x.put(0, i - 1, false);
            }
            x.mark(0, 0, NONE, 1);
            x.mark(1, 0, 7, 1);
            x.mark(2, 0, 15, 1);
        });
        says("TIGHT: .. It is FULL if the ROW has 2^w THINGS.");
        s.refuses(FULL, "put(0, -1, false)", x -> x.put(0, NONE, false));
        s.refuses(FULL, "put(0, 7, false)", x -> x.put(0, 7, false));
        s.refuses(FULL, "put(0, 15, false)", x -> x.put(0, 15, false));
        says("Promise 21: FULL");
        s.refuses(FULL, "putAt(0)", x -> x.putAt(0));
        s.refuses(FULL, "putAt(1)", x -> x.putAt(1));
        s.refuses(FULL, "putAt(2)", x -> x.putAt(2));
        says("of several the one that stands first here");
        s.refuses(BAD, "put(0, 16, false): BAD ahead of FULL", x -> x.put(0, 16, false));
        s.refuses(BAD, "put(0, 0, true): BAD ahead of FULL", x -> x.put(0, 0, true));
        s.refuses(BAD, "putAt(3): BAD ahead of FULL", x -> x.putAt(3));
    }

    /** Labels 1, 3, 5, 8, 10, 12, 14, 15: behind 15 no span of 2, 4, 8 or 16 will do. */
    private static void eightSpread(LabelHall x, int row) {
        x.row(row, SPREAD, 4);
        for (int i = 0; i < 8; i++) {
            x.put(row, i - 1, false);
        }
    }

    private static void fullSpread() {
        Scene s = new Scene("8 in a SPREAD row of width 4", 8, x -> {
            eightSpread(x, 0);
            x.mark(0, 0, 7, 1);
        });
        says("SPREAD: .. It is FULL if there is no such j.");
        s.refuses(FULL, "put(0, 7, false)", x -> x.put(0, 7, false));
        s.refuses(FULL, "putAt(0)", x -> x.putAt(0));
        Scene nine = new Scene("9 in a SPREAD row of width 4", 9, x -> {
            eightSpread(x, 0);
            x.put(0, NONE, false);
            x.mark(0, 0, 8, 0);
            x.mark(1, 0, 7, 1);
            x.mark(2, 0, NONE, 1);
        });
        says("Promise 5: FULL: as one of them comes (then all is as before).");
        nine.refuses(FULL, "move(8, 7, false)", x -> x.move(8, 7, false));
        nine.refuses(FULL, "move(0, 7, false)", x -> x.move(0, 7, false));
        says("of several the one that stands first here");
        nine.refuses(NO, "move(7, 7, false): NO ahead of FULL", x -> x.move(7, 7, false));
    }

    private static void fullBlocked() {
        Scene s = new Scene("43 in a BLOCKED row of width 4", 43, x -> {
            x.row(0, BLOCKED, 4);
            for (int i = 0; i < 43; i++) {
                x.put(0, i - 1, false);
            }
            x.mark(0, 0, 42, 1);
            x.mark(1, 0, 0, 0);
            x.mark(2, 0, 40, 0);
        });
        says("BLOCKED: .. If that new BLOCK would be FULL, all is FULL.");
        s.refuses(FULL, "put(0, 42, false): a place", x -> x.put(0, 42, false));
        s.refuses(FULL, "put(0, 40, false): a place", x -> x.put(0, 40, false));
        s.refuses(FULL, "putAt(0)", x -> x.putAt(0));
        s.refuses(FULL, "putAt(2)", x -> x.putAt(2));
        says("Promise 5: FULL: as one of them comes (then all is as before).");
        s.refuses(FULL, "move(0, 42, false)", x -> x.move(0, 42, false));
    }

    /** The last block has 7 stands: a thing would come to it, its END would part it. */
    private static void twentyOneSiblings(LabelHall x) {
        x.row(0, NESTED, 4);
        for (int i = 0; i < 21; i++) {
            x.put(0, i - 1, i > 0);
        }
    }

    private static void fullNested() {
        Scene s = new Scene("21 in a NESTED row of width 4", 21, x -> {
            twentyOneSiblings(x);
            x.mark(0, 0, 20, 0);
            x.mark(1, 0, 0, 1);
            x.mark(2, 0, 20, 1);
        });
        says("Promise 3: FULL: no label (for it or its END)");
        s.refuses(FULL, "put(0, 20, true): for its END", x -> x.put(0, 20, true));
        s.refuses(FULL, "put(0, 20, false): for its END", x -> x.put(0, 20, false));
        s.refuses(FULL, "putAt(0): for its END", x -> x.putAt(0));
        s.refuses(FULL, "putAt(2): for its END", x -> x.putAt(2));
        says("Promise 5: FULL: as one of them comes (then all is as before).");
        s.refuses(FULL, "move(0, 20, true): for its END", x -> x.move(0, 20, true));
        s.refuses(FULL, "move(1, 20, false): for its END", x -> x.move(1, 20, false));
        Scene eight = new Scene("8 stands in the last block", 22, x -> {
            twentyOneSiblings(x);
            x.drop(17);
            x.put(0, 20, true);
        });
        says("Promise 3: FULL: no label (for it or its END)");
        eight.refuses(FULL, "put(0, 21, true): for it", x -> x.put(0, 21, true));
        eight.refuses(FULL, "put(0, 18, false): for it", x -> x.put(0, 18, false));
    }

    /** Row 0 has n things, and row 1 of the same kind, width 4, has marks and none or one. */
    private static Scene beside(int kind, int n, boolean one) {
        return new Scene(n + " of kind " + kind + (one ? " and 1" : ""), one ? n + 1 : n, x -> {
            x.row(0, kind, 10);
            x.row(1, kind, 4);
            x.row(2, kind == TIGHT ? SPREAD : TIGHT, 4);
            for (int i = 0; i < n; i++) {
                x.put(0, i - 1, kind == NESTED && i > 0);
            }
            if (one) {
                x.put(1, NONE, false);
            }
            x.mark(0, 0, n - 1, 0);
            x.mark(1, 0, 1, 1);
            x.mark(2, 1, NONE, 1);
            x.mark(3, 1, NONE, 0);
        });
    }

    private static void fullJoinAndSplit() {
        int[] more = {17, 10, 44, 22};
        for (int kind = TIGHT; kind <= NESTED; kind++) {
            Scene s = beside(kind, more[kind], false);
            says("Promise 6: FULL (then all is as before: as move())");
            s.refuses(FULL, "join(0, 1)", x -> x.join(0, 1));
            says("of several the one that stands first here");
            s.refuses(NO, "join(0, 2): NO ahead of FULL", x -> x.join(0, 2));
            Scene t = beside(kind, more[kind], true);
            says("Promise 7: FULL (then all is as before: as move())");
            t.refuses(FULL, "split(0, 1)", x -> x.split(0, 1));
            says("of several the one that stands first here");
            t.refuses(NO, "split(0, 2): NO ahead of FULL", x -> x.split(0, 2));
            t.refuses(BAD, "split(0, 0): BAD ahead of all", x -> x.split(0, 0));
        }
        Scene deep = new Scene("30 within one another", 30, x -> {
            x.row(0, NESTED, 20);
            x.row(1, NESTED, 4);
            for (int i = 0; i < 30; i++) {
                x.put(0, i - 1, false);
            }
        });
        deep.refuses(FULL, "join(0, 1)", x -> x.join(0, 1));
        deep.refuses(NO, "split(1, 1): NO, WITHIN one", x -> x.split(1, 1));
    }

    private static void threeHundred() {
        Scene s = new Scene("300 things", 300, x -> {
            x.row(0, TIGHT, 40);
            x.row(1, NESTED, 40);
            for (int i = 0; i < 300; i++) {
                x.put(i < 200 ? 0 : 1, i == 200 ? NONE : i - 1, false);
            }
            x.mark(0, 0, 100, 1);
            x.mark(1, 1, 299, 0);
            x.drop(3);
        });
        says("Promise 3: FULL: .. or 300 THINGS.");
        s.refuses(FULL, "put(0, -1, false)", x -> x.put(0, NONE, false));
        s.refuses(FULL, "put(1, 299, true)", x -> x.put(1, 299, true));
        says("Promise 21: FULL");
        s.refuses(FULL, "putAt(0)", x -> x.putAt(0));
        s.refuses(FULL, "putAt(1)", x -> x.putAt(1));
        says("of several the one that stands first here");
        s.refuses(BAD, "put(0, 300, false): BAD ahead of FULL", x -> x.put(0, 300, false));
        s.refuses(BAD, "put(2, -1, false): BAD ahead of FULL", x -> x.put(2, NONE, false));
        s.refuses(BAD, "put(0, 0, true): BAD ahead of FULL", x -> x.put(0, 0, true));
        s.refuses(BAD, "putAt(2): BAD ahead of FULL", x -> x.putAt(2));
    }

    private static void undoOfNone() {
        says("Promise 22: NO: none.");
        new Scene("a new object", 0, x -> { }).refuses(NO, "undo()", LabelHall::undo);
        new Scene("all taken back", 1, x -> {
            x.row(0, TIGHT, 4);
            for (int i = 0; i < 9; i++) {
                x.mark(i, 0, NONE, 0);
            }
            x.put(0, NONE, false);
            for (int i = 0; i < 8; i++) {
                x.undo();
            }
        }).refuses(NO, "undo()", LabelHall::undo);
    }

    /** Calls that only ask, the refused ones among them, change nothing either. */
    private static void asking(Scene s) {
        says("CHANGES are the calls of row, put, putAt, drop, move, join, split, mark that are not refused.");
        s.refuses(BAD, "all that asks", x -> {
            for (int a = -2; a < 14; a++) {
                x.marked(a);
                x.index(a);
                x.depth(a);
                x.rowOf(a);
                x.label(a, a % 2 == 0);
                x.inner(a, a % 2 != 0);
                x.near(a, a & 3);
                x.at(a, a);
                x.less(a, 6);
                x.between(a, 6);
                x.holds(6, a);
                x.meet(a, 8);
                x.about(a, 4);
                x.isOf(a, 1);
            }
            return x.count(6);
        });
    }

    public static void main(String[] args) {
        begin("RefusedTest");
        Scene mixed = new Scene("mixed", 12, HallCheck::mixed);
        row(mixed);
        put(mixed);
        drop(mixed);
        move(mixed);
        joinAndSplit(mixed);
        marks(mixed);
        asking(mixed);
        fullTight();
        fullSpread();
        fullBlocked();
        fullNested();
        fullJoinAndSplit();
        threeHundred();
        undoOfNone();
        end();
    }
}
