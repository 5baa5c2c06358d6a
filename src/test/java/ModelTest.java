/**
 * Long runs of calls, of a fixed sequence of numbers, put to the class and to the model alike:
 * every answer must be the same, and after every call all labels, places, marks and counts.
 */
public final class ModelTest {
    private static final Check CHECK = new Check("ModelTest");
    private static final int RUNS = 600;
    private static final int CALLS = 512;

    /** How a run chooses its calls. */
    private enum Style { MIXED, CROWDED, FAMILIES, CARRIED }

    private final int run;
    private final Style style;
    private final LabelHall hall = new LabelHall();
    private final Model model = new Model();
    private final StringBuilder log = new StringBuilder();
    private long seed;
    private int hot = 0;

    private ModelTest(int run) {
        this.run = run;
        this.seed = 7919L * run + 1;
        this.style = Style.values()[run % Style.values().length];
    }

    private int next(int bound) {
        seed = seed * 6364136223846793005L + 1442695040888963407L;
        return (int) ((seed >>> 33) % bound);
    }

    private boolean chance(int percent) {
        return next(100) < percent;
    }

    private void same(String call, long got, long want) {
        if (got != want && !CHECK.anyWrong()) {
            System.out.println("run " + run + " (" + style + "):" + log);
        }
        CHECK.due("run " + run + " " + call, got, want);
    }

    private int thing() {
        if (chance(3)) {
            return next(310) - 5;
        }
        return model.things == 0 ? 0 : next(model.things);
    }

    /** A thing that stands in a row, if one can be found in a few tries. */
    private int standing(int row) {
        int n = model.at(row, 0) < 0 ? 0 : model.about(row, 2);
        return n == 0 || chance(4) ? thing() : model.at(row, next(n));
    }

    private int behindIn(int row) {
        if (style == Style.CROWDED && chance(70) && model.rowOf(hot) == row) {
            return hot;
        }
        return chance(12) ? -1 : standing(row);
    }

    private boolean endIn(int row, int behind) {
        if (model.about(row, 0) != 3) {
            return chance(2);
        }
        return behind == -1 ? chance(3) : chance(style == Style.FAMILIES ? 35 : 50);
    }

    private int row() {
        return chance(3) ? next(12) - 2 : next(style == Style.CARRIED ? 6 : 3);
    }

    private void makeRows() {
        int rows = style == Style.CARRIED ? 6 : 3;
        for (int r = 0; r < rows; r++) {
            int kind = style == Style.FAMILIES ? 3 : style == Style.CARRIED ? run / 4 % 4 : next(4);
            int width = chance(60) ? 4 + next(4) : chance(50) ? 4 + next(37) : 40;
            callRow(r, kind, width);
        }
    }

    private void callRow(int row, int kind, int width) {
        log.append("\n  row(").append(row).append(", ").append(kind).append(", ").append(width).append(")");
        same("row", hall.row(row, kind, width), model.row(row, kind, width));
    }

    private void callPut() {
        int row = row();
        int behind = behindIn(row);
        boolean end = endIn(row, behind);
        log.append("\n  put(").append(row).append(", ").append(behind).append(", ").append(end).append(")");
        int got = hall.put(row, behind, end);
        same("put(" + row + ", " + behind + ", " + end + ")", got, model.put(row, behind, end));
        hot = chance(10) && got >= 0 ? got : hot;
    }

    private void callMove() {
        int thing = thing();
        int row = chance(95) ? model.rowOf(thing) : row();
        int behind = behindIn(row);
        boolean end = endIn(row, behind);
        log.append("\n  move(").append(thing).append(", ").append(behind).append(", ").append(end).append(")");
        same("move(" + thing + ", " + behind + ", " + end + ")", hall.move(thing, behind, end),
            model.move(thing, behind, end));
    }

    private void callMark() {
        int mark = chance(5) ? next(30) - 5 : next(20);
        int row = row();
        int behind = behindIn(row);
        int lean = chance(3) ? next(5) - 2 : next(2);
        log.append("\n  mark(").append(mark).append(", ").append(row).append(", ").append(behind)
            .append(", ").append(lean).append(")");
        same("mark", hall.mark(mark, row, behind, lean), model.mark(mark, row, behind, lean));
    }

    private void callOther(int which) {
        int thing = thing();
        int row = row();
        int to = row();
        int mark = chance(5) ? next(30) - 5 : next(20);
        switch (which) {
            case 0:
                log.append("\n  drop(").append(thing).append(")");
                same("drop(" + thing + ")", hall.drop(thing), model.drop(thing));
                break;
            case 1:
                log.append("\n  join(").append(row).append(", ").append(to).append(")");
                same("join(" + row + ", " + to + ")", hall.join(row, to), model.join(row, to));
                break;
            case 2:
                log.append("\n  split(").append(thing).append(", ").append(to).append(")");
                same("split(" + thing + ", " + to + ")", hall.split(thing, to), model.split(thing, to));
                break;
            case 3:
                log.append("\n  putAt(").append(mark).append(")");
                same("putAt(" + mark + ")", hall.putAt(mark), model.putAt(mark));
                break;
            case 4:
                log.append("\n  undo()");
                same("undo()", hall.undo(), model.undo());
                break;
            default:
                callRow(chance(20) ? next(12) - 2 : next(8), next(6) - 1, 2 + next(42));
                break;
        }
    }

    private void change() {
        int dice = next(100);
        boolean carried = style == Style.CARRIED;
        int puts = style == Style.CROWDED ? 78 : carried ? 50 : 60;
        if (dice < puts) {
            callPut();
        } else if (dice < puts + 8) {
            callMove();
        } else if (dice < 90) {
            callMark();
        } else if (dice < 93) {
            callOther(3);
        } else {
            int pick = next(carried ? 12 : 14);
            callOther(pick < 3 ? (carried ? 1 : 0) : pick < 5 ? 2 : pick < 6 ? 1 : pick < 10 ? 4 : pick < 11 ? 0 : 5);
        }
    }

    private void compareStands() {
        for (int r = 0; r < 8; r++) {
            for (int what = 0; what < 5; what++) {
                same("about(" + r + ", " + what + ")", hall.about(r, what), model.about(r, what));
            }
            if (model.world.rows[r] == null) {
                continue;
            }
            for (Model.Block block : model.world.rows[r].blocks) {
                for (Model.Stand s : block.stands) {
                    same("label(" + s.thing + ", " + s.end + ")", hall.label(s.thing, s.end), block.label);
                    int inner = model.world.rows[r].kind < 2 ? -1 : s.inner;
                    same("inner(" + s.thing + ", " + s.end + ")", hall.inner(s.thing, s.end), inner);
                    same("rowOf(" + s.thing + ")", hall.rowOf(s.thing), r);
                }
            }
        }
        for (int what = -1; what < 7; what++) {
            same("count(" + what + ")", hall.count(what), model.count(what));
        }
        for (int mark = -1; mark < 21; mark++) {
            same("marked(" + mark + ")", hall.marked(mark), model.marked(mark));
        }
    }

    private void compareThing(int t) {
        same("rowOf(" + t + ")", hall.rowOf(t), model.rowOf(t));
        same("index(" + t + ")", hall.index(t), model.index(t));
        same("depth(" + t + ")", hall.depth(t), model.depth(t));
        for (int what = -1; what < 5; what++) {
            same("near(" + t + ", " + what + ")", hall.near(t, what), model.near(t, what));
        }
        same("label(" + t + ", false)", hall.label(t, false), model.label(t, false));
        same("label(" + t + ", true)", hall.label(t, true), model.label(t, true));
        same("inner(" + t + ", false)", hall.inner(t, false), model.inner(t, false));
        same("inner(" + t + ", true)", hall.inner(t, true), model.inner(t, true));
    }

    private void comparePair(int t, int o) {
        same("less(" + t + ", " + o + ")", hall.less(t, o), model.less(t, o));
        same("between(" + t + ", " + o + ")", hall.between(t, o), model.between(t, o));
        same("holds(" + t + ", " + o + ")", hall.holds(t, o), model.holds(t, o));
        same("meet(" + t + ", " + o + ")", hall.meet(t, o), model.meet(t, o));
    }

    private void compareAsked() {
        for (int n = 0; n < 12; n++) {
            int t = thing();
            compareThing(t);
            comparePair(t, thing());
            comparePair(t, standing(Math.max(0, model.rowOf(t))));
            comparePair(t, t);
        }
        for (int r = -1; r < 9; r++) {
            int i = next(60) - 1;
            same("at(" + r + ", " + i + ")", hall.at(r, i), model.at(r, i));
            for (int kind = -1; kind < 5; kind++) {
                same("isOf(" + r + ", " + kind + ")", hall.isOf(r, kind), model.isOf(r, kind));
            }
        }
    }

    private void go() {
        makeRows();
        for (int n = 0; n < CALLS && !CHECK.anyWrong(); n++) {
            change();
            compareStands();
            if (n % 32 == 31) {
                compareAsked();
            }
        }
    }

    public static void main(String[] args) {
        for (int run = 0; run < RUNS && !CHECK.anyWrong(); run++) {
            new ModelTest(run).go();
        }
        CHECK.end();
    }
}
