import java.util.ArrayList;
import java.util.List;
import java.util.function.Supplier;
import java.util.function.ToLongFunction;

/**
 * All that a hall shows of itself, as lines of text. An object may be used for 512 calls alone, so
 * the questions are put to several objects, each made anew in the same way.
 */
final class View {
    private static final int QUESTIONS_TO_ONE = 150;

    private record Question(String name, ToLongFunction<LabelHall> call) {
        String line(LabelHall x) {
            return name + " = " + call.applyAsLong(x);
        }
    }

    private View() {
    }

    /** What all asking calls answer, for the things 0 .. things - 1. */
    static List<String> asked(Supplier<LabelHall> maker, int things) {
        List<String> lines = new ArrayList<>();
        LabelHall x = maker.get();
        int put = 0;
        for (Question q : questions(things)) {
            if (put == QUESTIONS_TO_ONE) {
                x = maker.get();
                put = 0;
            }
            lines.add(q.line(x));
            put++;
        }
        return lines;
    }

    /** What shows only in a change: where marks put and how they lean, what the next new thing is. */
    static List<String> tried(Supplier<LabelHall> maker) {
        List<String> lines = new ArrayList<>();
        for (int m = 0; m < 20; m++) {
            lines.add(atMark(m).line(maker.get()));
        }
        for (int r = 0; r < 8; r++) {
            lines.add(atBeginning(r).line(maker.get()));
        }
        return lines;
    }

    private static Question atMark(int m) {
        return new Question("putAt(" + m + ")", x -> {
            int thing = x.putAt(m);
            return thing < 0 ? thing : x.marked(m) * 1_000_000L + x.rowOf(thing) * 1000 + x.index(thing);
        });
    }

    private static Question atBeginning(int r) {
        return new Question("put(" + r + ", -1, false)", x -> {
            int thing = x.put(r, -1, false);
            return thing < 0 ? thing : x.label(thing, false) * 1000 + thing;
        });
    }

    private static List<Question> questions(int things) {
        List<Question> all = new ArrayList<>();
        for (int i = 0; i < 6; i++) {
            int what = i;
            all.add(new Question("count(" + what + ")", x -> x.count(what)));
        }
        for (int i = 0; i < 20; i++) {
            int mark = i;
            all.add(new Question("marked(" + mark + ")", x -> x.marked(mark)));
        }
        for (int i = 0; i < 40; i++) {
            int row = i / 5;
            int what = i % 5;
            all.add(new Question("about(" + row + ", " + what + ")", x -> x.about(row, what)));
        }
        for (int i = 0; i < things; i++) {
            addQuestions(all, i);
        }
        return all;
    }

    private static void addQuestions(List<Question> all, int thing) {
        all.add(new Question("rowOf(" + thing + ")", x -> x.rowOf(thing)));
        all.add(new Question("index(" + thing + ")", x -> x.index(thing)));
        all.add(new Question("depth(" + thing + ")", x -> x.depth(thing)));
        all.add(new Question("near(" + thing + ", 2)", x -> x.near(thing, 2)));
        all.add(new Question("label(" + thing + ", false)", x -> x.label(thing, false)));
        all.add(new Question("label(" + thing + ", true)", x -> x.label(thing, true)));
        all.add(new Question("inner(" + thing + ", false)", x -> x.inner(thing, false)));
        all.add(new Question("inner(" + thing + ", true)", x -> x.inner(thing, true)));
    }
}
