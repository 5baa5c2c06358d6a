/** One method a promise (and one a part of the Terms), with answers that were worked out by hand. */
public final class PromiseTest extends HallCheck {
    private static void constants() {
        due("NONE", LabelHall.NONE, -1);
        due("BAD", LabelHall.BAD, -3);
        due("NO", LabelHall.NO, -4);
        due("FULL", LabelHall.FULL, -5);
    }

    private static void promise1NewObject() {
        LabelHall x = new LabelHall();
        for (int what = 0; what < 6; what++) {
            due("new: count(" + what + ")", x.count(what), 0);
        }
        for (int r = 0; r < 8; r++) {
            due("new: about", x.about(r, 0), BAD);
            due("new: at", x.at(r, 0), BAD);
        }
        for (int m = 0; m < 20; m++) {
            due("new: marked", x.marked(m), BAD);
        }
        due("new: rowOf(0)", x.rowOf(0), BAD);
        due("new: undo", x.undo(), NO);
        LabelHall y = hallWith(TIGHT, 4);
        due("another object is not touched", x.count(5), 0);
        due("this one is", y.count(5), 1);
    }

    private static void promise2Row() {
        LabelHall x = new LabelHall();
        due("row(-1)", x.row(-1, 0, 4), BAD);
        due("row(8)", x.row(8, 0, 4), BAD);
        due("kind -1", x.row(0, -1, 4), BAD);
        due("kind 4", x.row(0, 4, 4), BAD);
        due("width 3", x.row(0, 0, 3), BAD);
        due("width 41", x.row(0, 0, 41), BAD);
        due("far off", x.row(Integer.MIN_VALUE, Integer.MAX_VALUE, Integer.MIN_VALUE), BAD);
        due("no change so far", x.count(3), 0);
        for (int kind = 0; kind < 4; kind++) {
            due("least", x.row(kind, kind, 4), 0);
            due("greatest", x.row(kind + 4, kind, 40), 0);
        }
        due("rows", x.count(5), 8);
        due("there already", x.row(7, 3, 40), NO);
        due("BAD comes before NO", x.row(7, 3, 41), BAD);
        due("changes", x.count(3), 8);
        due("empty", x.about(3, 2), 0);
        due("kind", x.about(6, 0), 2);
        due("width", x.about(6, 1), 40);
    }

    private static void promise3Put() {
        LabelHall x = line(TIGHT, 10, 3);
        due("at the beginning", x.put(0, NONE, false), 3);
        due("in the middle", x.put(0, 0, false), 4);
        order("put", x, 0, 3, 0, 4, 1, 2);
        due("no such row", x.put(1, NONE, false), BAD);
        due("row -1", x.put(-1, NONE, false), BAD);
        due("row 8", x.put(8, NONE, false), BAD);
        due("behind -2", x.put(0, -2, false), BAD);
        due("behind none such", x.put(0, 5, false), BAD);
        due("behind 300", x.put(0, 300, false), BAD);
        due("behind the greatest", x.put(0, Integer.MAX_VALUE, false), BAD);
        due("end of a tight one", x.put(0, 0, true), BAD);
        due("end of NONE", x.put(0, NONE, true), BAD);
        x.row(1, NESTED, 10);
        due("behind one of another row", x.put(1, 0, false), BAD);
        due("end of NONE in a nested row", x.put(1, NONE, true), BAD);
        x.drop(4);
        due("behind one that is gone", x.put(0, 4, false), BAD);
        due("its number is not given again", x.put(0, NONE, false), 5);
        due("nested", x.put(1, NONE, false), 6);
        due("within", x.put(1, 6, false), 7);
        due("behind the END", x.put(1, 6, true), 8);
        due("first within, ahead of the other", x.put(1, 6, false), 9);
        order("nested", x, 1, 6, 9, 7, 8);
        due("within it", x.holds(6, 9), 1);
        due("not within it", x.holds(6, 8), 0);
        due("END behind it at once", x.near(9, 3), NONE);
        x.row(2, BLOCKED, 10);
        x.put(2, NONE, false);
        due("end of a blocked one", x.put(2, 10, true), BAD);
    }

    private static void promise3PutFull() {
        LabelHall x = hallWith(TIGHT, 40);
        for (int i = 0; i < 300; i++) {
            due("put " + i, x.put(0, i - 1, false), i);
        }
        due("300 there are", x.put(0, 299, false), FULL);
        due("BAD comes first", x.put(0, 300, false), BAD);
        due("changes", x.count(3), 8);
        x.mark(0, 0, 10, 1);
        due("at a mark too", x.putAt(0), FULL);
        x.drop(5);
        due("never given again", x.put(0, NONE, false), FULL);
        x.undo();
        x.undo();
        due("undo gives none back", x.undo(), 5);
        due("in rows", x.count(0), 299);
        due("ever", x.count(1), 300);
        due("rowOf(299)", x.rowOf(299), NONE);
        due("still", x.put(0, 0, false), FULL);
        due("rowOf(300)", x.rowOf(300), BAD);
    }

    private static void promise4Drop() {
        LabelHall x = line(SPREAD, 10, 3);
        due("drop", x.drop(1), 1);
        order("drop", x, 0, 0, 2);
        due("gone", x.drop(1), BAD);
        due("none such", x.drop(3), BAD);
        due("-1", x.drop(-1), BAD);
        due("300", x.drop(300), BAD);
        due("greatest", x.drop(Integer.MAX_VALUE), BAD);
        due("changes", x.count(3), 5);
        LabelHall y = family();
        due("a family", y.drop(1), 2);
        order("family", y, 0, 0, 3, 4);
        due("a child went too", y.rowOf(2), NONE);
        due("the rest", y.drop(0), 2);
        order("rest", y, 0, 4);
        due("the last", y.drop(4), 1);
        due("no blocks", y.about(0, 3), 0);
        due("anew", y.put(0, NONE, false), 5);
        due("in a new block", y.inner(5, false), 128);
    }

    private static void promise5Move() {
        LabelHall x = line(TIGHT, 10, 4);
        due("move", x.move(0, 2, false), 1);
        order("behind 2", x, 0, 1, 2, 0, 3);
        due("to the beginning", x.move(3, NONE, false), 1);
        order("to the beginning", x, 0, 3, 1, 2, 0);
        due("where it is", x.move(1, 3, false), 1);
        order("where it is", x, 0, 3, 1, 2, 0);
        due("itself", x.move(1, 1, false), NO);
        due("itself with end: BAD comes first", x.move(1, 1, true), BAD);
        due("end of NONE", x.move(1, NONE, true), BAD);
        due("none such", x.move(4, NONE, false), BAD);
        due("-1", x.move(-1, NONE, false), BAD);
        due("behind none such", x.move(0, 4, false), BAD);
        due("behind -2", x.move(0, -2, false), BAD);
        x.row(1, TIGHT, 10);
        x.put(1, NONE, false);
        due("another row", x.move(0, 4, false), BAD);
        due("alone", x.move(4, NONE, false), 1);
        due("its label", x.label(4, false), 511);
    }

    private static void promise5MoveFamilies() {
        LabelHall x = family();
        due("a family", x.move(1, 4, false), 2);
        order("into 4", x, 0, 0, 3, 4, 1, 2);
        due("within 4", x.holds(4, 1), 1);
        due("2 still within 1", x.near(2, 2), 1);
        due("depth", x.depth(2), 2);
        due("behind what is within it", x.move(4, 2, false), NO);
        due("behind the END of what is within it", x.move(4, 2, true), NO);
        due("behind its own END", x.move(4, 4, true), NO);
        due("out of it", x.move(1, 4, true), 2);
        due("no more within 4", x.near(1, 2), NONE);
        order("out", x, 0, 0, 3, 4, 1, 2);
        due("all of it to the beginning", x.move(1, NONE, false), 2);
        order("to the beginning", x, 0, 1, 2, 0, 3, 4);
    }

    private static void promise5MoveFull() {
        LabelHall x = line(SPREAD, 4, 8);
        due("the ninth", x.put(0, NONE, false), 8);
        labels("nine", x, 0, 0, 1, 3, 5, 8, 10, 12, 14, 15);
        int renamed = x.count(2);
        x.mark(3, 0, 8, 0);
        x.mark(4, 0, 7, 1);
        // Behind 15 the spans have 3, 4, 6 and 9 of them: 9 * 8 > 64.
        due("to the end", x.move(8, 7, false), FULL);
        labels("as before", x, 0, 0, 1, 3, 5, 8, 10, 12, 14, 15);
        order("as before", x, 0, 8, 0, 1, 2, 3, 4, 5, 6, 7);
        due("RENAMED too", x.count(2), renamed);
        due("the greatest too", x.about(0, 4), 7);
        due("marks too", x.marked(3), 8);
        due("marks too", x.marked(4), 7);
        due("no change is pushed out", x.count(3), 8);
        due("the latest is the mark", x.undo(), 7);
        due("it is not there", x.marked(4), BAD);
        // Without 14 the span 12 .. 15 has 3, with the one that comes: 3 * 8 = 24 = 4 * 6.
        due("from near by", x.move(6, 7, false), 1);
        order("from near by", x, 0, 8, 0, 1, 2, 3, 4, 5, 7, 6);
        labels("3 dealt to 12 .. 15", x, 0, 0, 1, 3, 5, 8, 10, 12, 14, 15);
        due("what comes is new: 2 renamed", x.count(2), renamed + 2);
    }

    private static void promise6Join() {
        LabelHall x = line(TIGHT, 10, 3);
        x.row(1, TIGHT, 4);
        due("put", x.put(1, NONE, false), 3);
        x.mark(0, 0, 1, 0);
        x.mark(1, 1, 3, 1);
        x.mark(2, 1, 3, 0);
        due("join", x.join(0, 1), 3);
        order("joined", x, 1, 3, 0, 1, 2);
        order("emptied", x, 0);
        labels("the width of the other", x, 1, 7, 11, 13, 14);
        due("the mark of the first at its beginning", x.marked(0), NONE);
        due("right", x.marked(1), 2);
        due("left", x.marked(2), 3);
        due("the mark is still of the first row", x.putAt(0), 4);
        order("first", x, 0, 4);
        x.drop(4);
        due("an empty one", x.join(0, 1), 0);
        due("is a change", x.undo(), 7);
        due("itself", x.join(0, 0), BAD);
        due("none such", x.join(2, 0), BAD);
        due("none such", x.join(0, 2), BAD);
        due("-1", x.join(-1, 0), BAD);
        due("8", x.join(0, 8), BAD);
        x.row(2, SPREAD, 10);
        due("unlike kinds", x.join(1, 2), NO);
        due("unlike kinds", x.join(2, 1), NO);
    }

    private static void promise6JoinFull() {
        LabelHall x = line(TIGHT, 10, 17);
        x.row(1, TIGHT, 4);
        x.mark(0, 0, 4, 0);
        int renamed = x.count(2);
        due("17 into 16", x.join(0, 1), FULL);
        due("none came", x.about(1, 2), 0);
        due("none went", x.about(0, 2), 17);
        due("nothing renamed", x.count(2), renamed);
        due("nothing was dealt there", x.about(1, 4), 0);
        due("the mark stays", x.marked(0), 4);
        x.drop(16);
        due("16 into 16", x.join(0, 1), 16);
        for (int i = 0; i < 16; i++) {
            due("label " + i, x.label(i, false), i);
        }
        LabelHall y = family();
        y.row(1, NESTED, 8);
        due("a nested one", y.join(0, 1), 5);
        order("nested", y, 1, 0, 1, 2, 3, 4);
        due("families stay", y.meet(2, 3), 0);
        due("depth", y.depth(2), 2);
    }

    private static void promise6JoinAmongOtherRows() {
        LabelHall x = new LabelHall();
        for (int r = 0; r < 8; r++) {
            x.row(r, BLOCKED, 10);
            for (int i = 0; i < 10; i++) {
                x.put(r, i == 0 ? NONE : 10 * r + i - 1, false);
            }
        }
        due("from behind", x.join(6, 2), 10);
        order("from behind", x, 2, 20, 21, 22, 23, 24, 25, 26, 27, 28, 29, 60, 61, 62, 63, 64, 65, 66, 67, 68, 69);
        due("from ahead", x.join(0, 7), 10);
        order("from ahead", x, 7, 70, 71, 72, 73, 74, 75, 76, 77, 78, 79, 0, 1, 2, 3, 4, 5, 6, 7, 8, 9);
        order("emptied", x, 6);
        order("emptied", x, 0);
        for (int r = 1; r < 6; r++) {
            for (int i = 0; i < 10; i++) {
                due("the others stand", x.at(r, i), 10 * r + i);
                due("the others stand", x.rowOf(10 * r + i), r);
            }
        }
        due("all are there", x.count(0), 80);
    }

    private static void promise7Split() {
        LabelHall x = line(SPREAD, 10, 5);
        x.row(1, SPREAD, 4);
        x.put(1, NONE, false);
        x.mark(0, 0, 4, 0);
        x.mark(1, 0, 2, 1);
        due("split", x.split(2, 1), 2);
        order("left", x, 0, 0, 1, 2);
        order("to the end", x, 1, 5, 3, 4);
        labels("labels", x, 1, 7, 11, 13);
        due("the mark falls back", x.marked(0), 2);
        due("the other one stays", x.marked(1), 2);
        due("nothing behind it", x.split(2, 1), 0);
        due("a change", x.undo(), 7);
        due("the same row", x.split(2, 0), BAD);
        due("none such", x.split(6, 1), BAD);
        due("-1", x.split(-1, 1), BAD);
        due("no row", x.split(2, 2), BAD);
        due("row 8", x.split(2, 8), BAD);
        x.row(2, BLOCKED, 10);
        due("kinds", x.split(2, 2), NO);
        LabelHall y = family();
        y.row(1, NESTED, 10);
        due("within one", y.split(1, 1), NO);
        due("the same row comes first", y.split(1, 0), BAD);
        due("behind its END", y.split(0, 1), 1);
        order("stay", y, 0, 0, 1, 2, 3);
        order("came", y, 1, 4);
        due("within stay within", y.holds(0, 3), 1);
    }

    private static void promise7SplitFull() {
        LabelHall x = line(TIGHT, 10, 18);
        x.row(1, TIGHT, 4);
        due("17 behind it", x.split(0, 1), FULL);
        due("all stay", x.about(0, 2), 18);
        due("none came", x.about(1, 2), 0);
        due("16 behind it", x.split(1, 1), 16);
    }

    private static void promise8Less() {
        LabelHall x = line(BLOCKED, 10, 12);
        due("first", x.less(0, 11), 1);
        due("second", x.less(11, 0), 2);
        due("one", x.less(5, 5), 0);
        for (int i = 0; i + 1 < 12; i++) {
            due("side by side", x.less(i, i + 1), 1);
            due("side by side", x.less(i + 1, i), 2);
        }
        due("none such", x.less(0, 12), BAD);
        due("none such", x.less(12, 0), BAD);
        due("none such, both", x.less(12, 12), BAD);
        due("-1", x.less(-1, 0), BAD);
        x.row(1, BLOCKED, 10);
        x.put(1, NONE, false);
        due("two rows", x.less(0, 12), NO);
        x.drop(12);
        due("gone", x.less(0, 12), BAD);
        due("a family's head is ahead", family().less(0, 2), 1);
    }

    private static void promise9Label() {
        LabelHall x = line(TIGHT, 40, 2);
        due("label", x.label(0, false), (1L << 39) - 1);
        due("label", x.label(1, false), ((1L << 39) - 1 + (1L << 40)) / 2);
        due("no END", x.label(0, true), BAD);
        due("none such", x.label(2, false), BAD);
        due("-1", x.label(-1, false), BAD);
        due("300", x.label(300, false), BAD);
        x.drop(1);
        due("gone", x.label(1, false), BAD);
        LabelHall y = line(BLOCKED, 8, 1);
        due("of its block", y.label(0, false), 127);
        due("blocked has no END", y.label(0, true), BAD);
        due("a thing's block", family().label(0, false), (1L << 19) - 1);
        due("END, in the second block", family().label(0, true), ((1L << 19) - 1 + (1L << 20)) / 2);
        due("END of none", family().label(5, true), BAD);
    }

    private static void promise10Inner() {
        due("tight", line(TIGHT, 8, 1).inner(0, false), NONE);
        due("spread", line(SPREAD, 8, 1).inner(0, false), NONE);
        due("spread END", line(SPREAD, 8, 1).inner(0, true), BAD);
        LabelHall x = line(BLOCKED, 8, 3);
        inners("each behind the last", x, 0, 128, 192, 224);
        due("END", x.inner(0, true), BAD);
        due("none such", x.inner(3, false), BAD);
        due("-1", x.inner(-1, false), BAD);
        due("at the beginning", x.put(0, NONE, false), 3);
        due("between -1 and 128", x.inner(3, false), 63);
        LabelHall y = line(NESTED, 8, 1);
        due("nested", y.inner(0, false), 128);
        due("its END", y.inner(0, true), 192);
        y.drop(0);
        due("gone", y.inner(0, true), BAD);
    }

    private static void promise11Near() {
        LabelHall x = family();
        int[][] want = {
            {NONE, 1, NONE, 1}, {0, 2, 0, 2}, {1, 3, 1, NONE}, {2, 4, 0, NONE}, {3, NONE, NONE, NONE}};
        for (int t = 0; t < 5; t++) {
            for (int what = 0; what < 4; what++) {
                due("near(" + t + ", " + what + ")", x.near(t, what), want[t][what]);
            }
            due("what -1", x.near(t, -1), BAD);
            due("what 4", x.near(t, 4), BAD);
        }
        due("none such", x.near(5, 0), BAD);
        due("-1", x.near(-1, 0), BAD);
        x.drop(3);
        due("gone", x.near(3, 0), BAD);
        due("the next", x.near(2, 1), 4);
        LabelHall y = line(TIGHT, 10, 2);
        due("not nested, 2", y.near(1, 2), NONE);
        due("not nested, 3", y.near(0, 3), NONE);
        due("row neighbours are not near", y.near(1, 1), NONE);
    }

    private static void promise12Index() {
        LabelHall x = family();
        for (int t = 0; t < 5; t++) {
            due("index(" + t + ")", x.index(t), t);
        }
        due("none such", x.index(5), BAD);
        due("-1", x.index(-1), BAD);
        x.drop(1);
        due("gone", x.index(1), BAD);
        due("after the drop", x.index(4), 2);
        x.row(1, TIGHT, 4);
        due("put", x.put(1, NONE, false), 5);
        due("by its own row", x.index(5), 0);
    }

    private static void promise13At() {
        LabelHall x = family();
        for (int i = 0; i < 5; i++) {
            due("at(" + i + ")", x.at(0, i), i);
        }
        due("not so many", x.at(0, 5), NONE);
        due("by far", x.at(0, Integer.MAX_VALUE), NONE);
        due("below 0", x.at(0, -1), BAD);
        due("no row", x.at(1, 0), BAD);
        due("row -1", x.at(-1, 0), BAD);
        due("row 8", x.at(8, 0), BAD);
        x.row(1, SPREAD, 4);
        due("empty", x.at(1, 0), NONE);
    }

    private static void promise14Between() {
        LabelHall x = family();
        due("one", x.between(2, 2), 0);
        due("side by side", x.between(0, 1), 0);
        due("without ENDS", x.between(0, 4), 3);
        due("the other way", x.between(4, 0), 3);
        due("2 and 4", x.between(2, 4), 1);
        due("none such", x.between(0, 5), BAD);
        due("none such", x.between(5, 0), BAD);
        due("-1", x.between(-1, -1), BAD);
        x.row(1, SPREAD, 4);
        x.put(1, NONE, false);
        due("two rows", x.between(0, 5), NO);
    }

    private static void promise15Holds() {
        LabelHall x = family();
        int[][] want = {{0, 1, 1, 1, 0}, {0, 0, 1, 0, 0}, {0, 0, 0, 0, 0}, {0, 0, 0, 0, 0}, {0, 0, 0, 0, 0}};
        for (int t = 0; t < 5; t++) {
            for (int o = 0; o < 5; o++) {
                due("holds(" + t + ", " + o + ")", x.holds(t, o), want[t][o]);
            }
        }
        due("none such", x.holds(0, 5), BAD);
        due("none such", x.holds(5, 0), BAD);
        x.row(1, NESTED, 10);
        x.put(1, NONE, false);
        due("two rows", x.holds(0, 5), 0);
        due("two rows", x.holds(5, 1), 0);
        due("not nested", line(BLOCKED, 10, 2).holds(0, 1), 0);
    }

    private static void promise16Meet() {
        LabelHall x = family();
        int[][] want = {
            {0, 0, 0, 0, NONE}, {0, 1, 1, 0, NONE}, {0, 1, 2, 0, NONE}, {0, 0, 0, 3, NONE},
            {NONE, NONE, NONE, NONE, 4}};
        for (int t = 0; t < 5; t++) {
            for (int o = 0; o < 5; o++) {
                due("meet(" + t + ", " + o + ")", x.meet(t, o), want[t][o]);
            }
        }
        due("none such", x.meet(0, 5), BAD);
        due("none such", x.meet(-1, 0), BAD);
        x.row(1, NESTED, 10);
        x.put(1, NONE, false);
        due("two rows", x.meet(0, 5), NO);
        LabelHall y = line(TIGHT, 10, 2);
        due("both", y.meet(1, 1), 1);
        due("not nested", y.meet(0, 1), NONE);
    }

    private static void promise17Depth() {
        LabelHall x = family();
        int[] want = {0, 1, 2, 1, 0};
        for (int t = 0; t < 5; t++) {
            due("depth(" + t + ")", x.depth(t), want[t]);
        }
        due("none such", x.depth(5), BAD);
        due("-1", x.depth(-1), BAD);
        x.drop(1);
        due("gone", x.depth(2), BAD);
        due("not nested", line(BLOCKED, 10, 3).depth(2), 0);
        LabelHall y = line(NESTED, 40, 300);
        due("deep", y.depth(299), 299);
        due("the innermost", y.near(299, 2), 298);
        due("the outermost", y.meet(0, 299), 0);
        due("full", y.put(0, NONE, false), FULL);
        y.row(7, NESTED, 20);
        due("all go to another row", y.join(0, 7), 300);
        due("deep", y.depth(299), 299);
        due("the last of them moves", y.move(299, NONE, false), 1);
        due("out of all", y.depth(299), 0);
        due("all of the rest moves", y.move(0, 299, false), 299);
        due("within it", y.depth(298), 299);
        due("all go", y.drop(299), 300);
        due("undo", y.undo(), 7);
        due("are there again", y.count(0), 300);
    }

    private static void promise18RowOf() {
        LabelHall x = line(TIGHT, 10, 2);
        x.row(5, TIGHT, 10);
        due("rowOf", x.rowOf(1), 0);
        due("rowOf", x.rowOf(0), 0);
        x.split(0, 5);
        due("stays", x.rowOf(0), 0);
        due("came to 5", x.rowOf(1), 5);
        x.drop(1);
        due("gone", x.rowOf(1), NONE);
        due("none such", x.rowOf(2), BAD);
        due("-1", x.rowOf(-1), BAD);
        due("300", x.rowOf(300), BAD);
        due("least", x.rowOf(Integer.MIN_VALUE), BAD);
    }

    private static void promise19Mark() {
        LabelHall x = line(TIGHT, 10, 2);
        x.row(1, TIGHT, 10);
        due("mark", x.mark(0, 0, 1, 0), 0);
        due("the last", x.mark(19, 0, NONE, 1), 0);
        due("-1", x.mark(-1, 0, 1, 0), BAD);
        due("20", x.mark(20, 0, 1, 0), BAD);
        due("lean -1", x.mark(1, 0, 1, -1), BAD);
        due("lean 2", x.mark(1, 0, 1, 2), BAD);
        due("no row", x.mark(1, 2, NONE, 0), BAD);
        due("row -1", x.mark(1, -1, NONE, 0), BAD);
        due("not in it", x.mark(1, 1, 0, 0), BAD);
        due("none such", x.mark(1, 0, 2, 0), BAD);
        due("-2", x.mark(1, 0, -2, 0), BAD);
        due("marks", x.count(4), 2);
        due("anew", x.mark(0, 1, NONE, 1), 0);
        due("marks", x.count(4), 2);
        due("at the beginning of 1", x.putAt(0), 2);
        due("it leans right", x.marked(0), 2);
        due("in row 1", x.rowOf(2), 1);
    }

    private static void promise20Marked() {
        LabelHall x = family();
        x.mark(0, 0, 1, 1);
        x.mark(1, 0, NONE, 0);
        due("a thing", x.marked(0), 1);
        due("the beginning", x.marked(1), NONE);
        due("not set", x.marked(2), BAD);
        due("-1", x.marked(-1), BAD);
        due("20", x.marked(20), BAD);
        due("a new one", x.put(0, 1, false), 5);
        due("behind its END", x.marked(0), 1005);
        x.drop(5);
        due("falls back", x.marked(0), 1);
        x.drop(1);
        due("to what stood ahead", x.marked(0), 0);
        x.drop(0);
        due("to the beginning", x.marked(0), NONE);
    }

    private static void promise21PutAt() {
        LabelHall x = family();
        x.mark(0, 0, 2, 1);
        due("behind 2, within it", x.putAt(0), 5);
        due("within 2", x.near(5, 2), 2);
        due("the mark goes behind its END", x.marked(0), 1005);
        due("behind that END", x.putAt(0), 6);
        due("within 2 too", x.near(6, 2), 2);
        order("in order", x, 0, 0, 1, 2, 5, 6, 3, 4);
        due("none", x.putAt(1), BAD);
        due("-1", x.putAt(-1), BAD);
        due("20", x.putAt(20), BAD);
        LabelHall y = line(TIGHT, 4, 16);
        y.mark(0, 0, 3, 0);
        due("full", y.putAt(0), FULL);
        due("none came", y.count(1), 16);
        y.drop(3);
        due("behind 2 now", y.putAt(0), 16);
        due("behind 2 now", y.near(2, 1), 16);
        due("left stays", y.marked(0), 2);
    }

    private static void promise22Undo() {
        LabelHall x = new LabelHall();
        due("none", x.undo(), NO);
        x.row(0, TIGHT, 4);
        due("the row goes", x.undo(), 0);
        due("no row", x.about(0, 0), BAD);
        due("none", x.undo(), NO);
        x.row(0, TIGHT, 4);
        x.put(0, NONE, false);
        x.row(1, TIGHT, 4);
        due("the row goes", x.undo(), 2);
        due("the thing stays", x.about(0, 2), 1);
        due("no row", x.about(1, 2), BAD);
        LabelHall y = line(TIGHT, 4, 12);
        y.put(0, NONE, false);
        y.put(99, NONE, false);
        y.mark(0, 9, 0, 0);
        due("kept", y.count(3), 8);
        for (int left = 7; left >= 0; left--) {
            due("undo", y.undo(), left);
            due("kept still", y.count(3), left);
        }
        due("no more", y.undo(), NO);
        order("the oldest that is kept", y, 0, 0, 1, 2, 3, 4);
        due("numbers go on", y.put(0, NONE, false), 13);
        due("one is kept", y.count(3), 1);
        due("undo", y.undo(), 0);
    }

    private static void promise22UndoTakesAllBack() {
        LabelHall x = hallWith(TIGHT, 4);
        for (int i = 0; i < 4; i++) {
            x.put(0, NONE, false);
        }
        x.mark(0, 0, 0, 1);
        x.put(0, NONE, false);
        due("renamed", x.count(2), 4);
        due("dealt", x.about(0, 4), 5);
        x.undo();
        due("RENAMED is taken back", x.count(2), 0);
        due("and the greatest", x.about(0, 4), 0);
        labels("and labels", x, 0, 0, 1, 3, 7);
        x.put(0, 0, false);
        due("the mark went on", x.marked(0), 5);
        x.undo();
        due("and back", x.marked(0), 0);
        x.undo();
        due("it was none", x.marked(0), BAD);
        LabelHall y = family();
        y.row(1, NESTED, 20);
        y.join(0, 1);
        y.undo();
        order("a join", y, 0, 0, 1, 2, 3, 4);
        y.move(1, 4, true);
        y.undo();
        due("a move", y.near(1, 2), 0);
        y.drop(0);
        y.undo();
        due("a drop", y.depth(2), 2);
    }

    private static void promise23About() {
        LabelHall x = line(BLOCKED, 9, 9);
        due("kind", x.about(0, 0), 2);
        due("width", x.about(0, 1), 9);
        due("things", x.about(0, 2), 9);
        due("blocks", x.about(0, 3), 2);
        due("dealt", x.about(0, 4), 9);
        due("what -1", x.about(0, -1), BAD);
        due("what 5", x.about(0, 5), BAD);
        due("no row", x.about(1, 0), BAD);
        due("row -1", x.about(-1, 0), BAD);
        due("row 8", x.about(8, 0), BAD);
        LabelHall y = family();
        due("things, not ENDS", y.about(0, 2), 5);
        due("ENDS stand in blocks: 10 stands", y.about(0, 3), 2);
        due("no blocks", line(SPREAD, 9, 9).about(0, 3), 0);
        due("nothing was dealt", line(SPREAD, 20, 9).about(0, 4), 0);
    }

    private static void promise24IsOf() {
        for (int kind = 0; kind < 4; kind++) {
            LabelHall x = hallWith(kind, 10);
            for (int of = 0; of < 4; of++) {
                due("isOf", x.isOf(0, of), of <= kind ? 1 : 0);
            }
            due("kind -1", x.isOf(0, -1), BAD);
            due("kind 4", x.isOf(0, 4), BAD);
            due("no row", x.isOf(1, 0), BAD);
            due("row -1", x.isOf(-1, 0), BAD);
            due("row 8", x.isOf(8, 0), BAD);
        }
    }

    private static void promise25Count() {
        LabelHall x = family();
        x.row(1, TIGHT, 10);
        x.put(1, NONE, false);
        x.mark(0, 0, 1, 0);
        x.mark(7, 1, NONE, 0);
        x.drop(1);
        due("in rows", x.count(0), 4);
        due("ever", x.count(1), 6);
        due("kept", x.count(3), 8);
        due("marks", x.count(4), 2);
        due("rows", x.count(5), 2);
        due("-1", x.count(-1), BAD);
        due("6", x.count(6), BAD);
        LabelHall y = hallWith(TIGHT, 4);
        for (int i = 0; i < 5; i++) {
            y.put(0, NONE, false);
        }
        due("renamed", y.count(2), 4);
    }

    private static void termsTight() {
        LabelHall x = hallWith(TIGHT, 4);
        long[] first = {7, 3, 1, 0};
        for (int i = 0; i < 4; i++) {
            x.put(0, NONE, false);
            due("at the beginning", x.label(i, false), first[i]);
        }
        due("nothing dealt", x.count(2), 0);
        x.put(0, NONE, false);
        labels("5 dealt to 16", x, 0, 1, 4, 8, 11, 14);
        order("the new one is first", x, 0, 4, 3, 2, 1, 0);
        due("renamed", x.count(2), 4);
        x.put(0, 0, false);
        due("between 14 and 16", x.label(5, false), 15);
        x.put(0, 5, false);
        labels("7 dealt to 16", x, 0, 1, 3, 5, 8, 10, 12, 14);
        due("renamed: 4 and 6", x.count(2), 10);
    }

    private static void termsSpread() {
        LabelHall x = hallWith(SPREAD, 4);
        x.put(0, NONE, false);
        for (int i = 0; i < 3; i++) {
            x.put(0, 0, false);
        }
        labels("halved", x, 0, 7, 8, 9, 11);
        x.put(0, 0, false);
        labels("2 dealt to 4 .. 7", x, 0, 5, 7, 8, 9, 11);
        order("the new one behind 0", x, 0, 0, 4, 3, 2, 1);
        due("renamed", x.count(2), 1);
        due("dealt", x.about(0, 4), 2);
        x.put(0, NONE, false);
        x.put(0, NONE, false);
        labels("to the beginning", x, 0, 0, 2, 5);
        x.put(0, NONE, false);
        labels("3 dealt to 0 .. 3, by the one behind", x, 0, 0, 2, 3, 5, 7, 8, 9, 11);
        due("renamed", x.count(2), 3);
        due("dealt", x.about(0, 4), 3);
    }

    /** Each comes to the end, w is 4: what is dealt and when it is full is worked out beside. */
    private static void termsSpreadFull() {
        LabelHall x = line(SPREAD, 4, 5);
        // 7, 11, 13, 14, 15; then [12, 16) with 13, 14, 15 and the new one: 4 * 8 > 24, and
        // [8, 16) with 11, too: 5 * 8 = 40 = 8 * 5.
        labels("to the end", x, 0, 7, 11, 13, 14, 15);
        x.put(0, 4, false);
        labels("5 dealt to 8 .. 15", x, 0, 7, 8, 10, 12, 13, 15);
        due("dealt", x.about(0, 4), 5);
        // Behind 15: [14, 16) 2 * 8 > 14; [12, 16) 4 * 8 > 24; [8, 16) 6 * 8 > 40; [0, 16) 7 * 8 <= 64.
        x.put(0, 5, false);
        labels("7 dealt to 0 .. 15", x, 0, 1, 3, 5, 8, 10, 12, 14);
        x.put(0, 6, false);
        due("a place", x.label(7, false), 15);
        // [0, 16) would have 9: 72 > 64.
        due("full", x.put(0, 7, false), FULL);
        labels("as before", x, 0, 1, 3, 5, 8, 10, 12, 14, 15);
        due("a place elsewhere", x.put(0, NONE, false), 8);
        due("its label", x.label(8, false), 0);
    }

    private static void termsBlocked() {
        LabelHall x = hallWith(BLOCKED, 4);
        x.put(0, NONE, false);
        for (int i = 0; i < 7; i++) {
            x.put(0, 0, false);
        }
        inners("halved", x, 0, 128, 129, 130, 132, 136, 144, 160, 192);
        due("one block", x.about(0, 3), 1);
        due("nothing dealt", x.about(0, 4), 0);
        LabelHall y = hallWith(BLOCKED, 4);
        y.put(0, NONE, false);
        for (int i = 0; i < 8; i++) {
            y.put(0, NONE, false);
        }
        // 128, 63, 31, 15, 7, 3, 1, 0 and the ninth has no place.
        due("9 are dealt, then 5 and 4", y.count(2), 8 + 9);
        inners("both dealt", y, 0, 25, 76, 128, 179, 230, 32, 96, 160, 224);
        labels("the new block is behind", y, 0, 7, 7, 7, 7, 7, 11, 11, 11, 11);
        due("dealt", y.about(0, 4), 9);
        due("at the beginning", y.put(0, NONE, false), 9);
        due("comes to the block behind", y.label(9, false), 7);
        due("between -1 and 25", y.inner(9, false), 12);
        due("behind the last of a block", y.put(0, y.at(0, 5), false), 10);
        due("comes to the block ahead", y.label(10, false), 7);
        due("between 230 and 256", y.inner(10, false), 243);
    }

    /** A block that has 9 without a dealing: only the 5 and the 4 are dealt. */
    private static void termsBlockedParted() {
        LabelHall x = hallWith(BLOCKED, 10);
        x.put(0, NONE, false);
        x.put(0, 0, false);
        for (int i = 0; i < 7; i++) {
            x.put(0, i % 2 == 0 ? NONE : 1, false);
        }
        due("two blocks", x.about(0, 3), 2);
        due("9 were given anew", x.count(2), 9);
        due("5 at once", x.about(0, 4), 5);
    }

    private static void termsBlockedFull() {
        LabelHall x = hallWith(BLOCKED, 4);
        int n = 0;
        while (n < 299 && x.put(0, n - 1, false) == n) {
            n++;
        }
        // Each block leaves 5 behind it, and blocks come to the end as spread things do: 8 of them,
        // and the last has 8 when the next one would part it.
        due("full at", n, 7 * 5 + 8);
        due("blocks", x.about(0, 3), 8);
        due("again", x.put(0, n - 1, false), FULL);
        due("in another block there is room", x.put(0, 0, false), n);
    }

    /** Two rows with the same labels have nothing to do with one another. */
    private static void termsRowsApart() {
        LabelHall x = hallWith(BLOCKED, 8);
        x.row(1, BLOCKED, 8);
        x.put(0, NONE, false);
        x.put(1, NONE, false);
        due("the same label", x.label(0, false), 127);
        due("the same label", x.label(1, false), 127);
        x.put(1, NONE, false);
        due("between -1 and 128", x.inner(2, false), 63);
        x.put(0, 0, false);
        due("between 128 and 256", x.inner(3, false), 192);
        x.mark(0, 1, 2, 0);
        x.mark(1, 1, 1, 0);
        x.drop(2);
        due("at the beginning of row 1", x.marked(0), NONE);
        x.drop(1);
        due("at the beginning of row 1", x.marked(1), NONE);
        due("a new block", x.put(1, NONE, false), 4);
        due("its label", x.label(4, false), 127);
        due("its inner one", x.inner(4, false), 128);
        for (int i = 5; i < 13; i++) {
            x.put(1, NONE, false);
        }
        // 128, 63, 31, 15, 7, 3, 1, 0: the ninth deals 8 anew, and the parting 9.
        due("renamed", x.count(2), 17);
        due("row 0 has its block", x.about(0, 3), 1);
        due("row 1 is parted", x.about(1, 3), 2);
        due("row 0 keeps its labels", x.inner(3, false), 192);
    }

    private static void termsNested() {
        LabelHall x = hallWith(NESTED, 4);
        for (int i = 0; i < 4; i++) {
            due("put", x.put(0, i - 1, false), i);
        }
        due("8 stands are one block", x.about(0, 3), 1);
        due("the fifth", x.put(0, 3, false), 4);
        due("10 stands are two", x.about(0, 3), 2);
        int n = 5;
        while (n < 299 && x.put(0, n - 1, false) == n) {
            n++;
        }
        due("full", x.put(0, n - 1, false), FULL);
        due("ever", x.count(1), n);
        due("all are families", x.depth(n - 1), n - 1);
        int blocks = x.about(0, 3);
        due("full for its END changes nothing", x.put(0, n - 1, false), FULL);
        due("blocks", x.about(0, 3), blocks);
    }

    private static void termsMarks() {
        LabelHall x = line(TIGHT, 20, 2);
        x.mark(0, 0, 0, 0);
        x.mark(1, 0, 0, 1);
        x.mark(2, 0, NONE, 0);
        x.mark(3, 0, NONE, 1);
        x.mark(4, 0, 1, 1);
        x.row(1, TIGHT, 20);
        x.mark(5, 1, NONE, 1);
        due("behind 0", x.put(0, 0, false), 2);
        due("at the beginning", x.put(0, NONE, false), 3);
        due("left stays", x.marked(0), 0);
        due("right goes on", x.marked(1), 2);
        due("left stays at the beginning", x.marked(2), NONE);
        due("right goes on", x.marked(3), 3);
        due("elsewhere", x.marked(4), 1);
        due("of another row", x.marked(5), NONE);
        x.drop(2);
        due("falls back", x.marked(1), 0);
        x.move(0, 1, false);
        due("what moves leaves its marks", x.marked(0), 3);
        due("what moves leaves its marks", x.marked(1), 3);
        due("right goes on behind what came", x.marked(4), 0);
        x.move(0, 1, false);
        due("fell back, and went on again", x.marked(4), 0);
        x.join(0, 1);
        due("at the beginning", x.marked(4), NONE);
        due("right goes on with all that comes", x.marked(5), 0);
    }

    private static void termsMarksWithFamilies() {
        LabelHall x = family();
        x.mark(0, 0, 2, 0);
        x.mark(1, 0, 3, 0);
        x.mark(2, 0, 4, 1);
        x.mark(3, 0, 4, 0);
        due("a family moves", x.move(1, 4, false), 2);
        due("behind what stood ahead of the family", x.marked(0), 0);
        due("elsewhere", x.marked(1), 3);
        due("right: behind the END of what came", x.marked(2), 1001);
        due("left stays", x.marked(3), 4);
        due("drop", x.drop(4), 3);
        due("behind the END of 0", x.marked(2), 1000);
        due("behind the END of 0", x.marked(3), 1000);
        due("put at an END", x.putAt(3), 5);
        due("behind 0, not within it", x.depth(5), 0);
    }

    private static void termsWrongCallsChangeNothing() {
        LabelHall x = family();
        x.mark(0, 0, 1, 1);
        int kept = x.count(3);
        x.row(0, 0, 4);
        x.put(0, 99, false);
        x.drop(99);
        x.move(0, 1, false);
        x.join(0, 0);
        x.split(1, 0);
        x.mark(0, 0, 1, 5);
        x.putAt(3);
        for (int i = 0; i < 10; i++) {
            x.less(0, 1);
            x.near(0, 3);
            x.meet(2, 3);
        }
        due("kept", x.count(3), kept);
        order("as before", x, 0, 0, 1, 2, 3, 4);
        due("the latest is the mark", x.undo(), kept - 1);
        due("the mark is not there", x.marked(0), BAD);
    }

    /** No call throws, whatever its arguments; what it answers past the 512th call is free. */
    private static void farOffArguments(LabelHall x) {
        int[] odd = {Integer.MIN_VALUE, -1000, -4, -2, -1, 0, 1, 2, 7, 8, 19, 20, 299, 300, 301, 599, 600,
            1 << 30, Integer.MAX_VALUE};
        for (int a : odd) {
            x.undo();
            x.drop(a == 0 ? 900 : a + 2);
            x.marked(a);
            x.putAt(a);
            x.index(a);
            x.depth(a);
            x.rowOf(a);
            x.count(a);
            for (int b : odd) {
                x.row(a, b, b);
                x.put(a, b, true);
                x.put(a, b, false);
                x.move(a, b, true);
                x.move(a, b, false);
                x.join(a, b);
                x.split(a, b);
                x.mark(a, 0, b, a);
                x.mark(1, a, b, 1);
                x.less(a, b);
                x.near(a, b);
                x.at(a, b);
                x.between(a, b);
                x.holds(a, b);
                x.meet(a, b);
                x.about(a, b);
                x.isOf(a, b);
                x.label(a, b > 0);
                x.inner(a, b > 0);
            }
        }
        due("the last call is come to", x.count(6), BAD);
    }

    public static void main(String[] args) {
        begin("PromiseTest");
        constants();
        promise1NewObject();
        promise2Row();
        promise3Put();
        promise3PutFull();
        promise4Drop();
        promise5Move();
        promise5MoveFamilies();
        promise5MoveFull();
        promise6Join();
        promise6JoinFull();
        promise6JoinAmongOtherRows();
        promise7Split();
        promise7SplitFull();
        promise8Less();
        promise9Label();
        promise10Inner();
        promise11Near();
        promise12Index();
        promise13At();
        promise14Between();
        promise15Holds();
        promise16Meet();
        promise17Depth();
        promise18RowOf();
        promise19Mark();
        promise20Marked();
        promise21PutAt();
        promise22Undo();
        promise22UndoTakesAllBack();
        promise23About();
        promise24IsOf();
        promise25Count();
        termsTight();
        termsSpread();
        termsSpreadFull();
        termsBlocked();
        termsBlockedParted();
        termsBlockedFull();
        termsRowsApart();
        termsNested();
        termsMarks();
        termsMarksWithFamilies();
        termsWrongCallsChangeNothing();
        farOffArguments(new LabelHall());
        farOffArguments(family());
        farOffArguments(mixedHall());
        farOffArguments(line(TIGHT, 4, 16));
        farOffArguments(line(BLOCKED, 4, 43));
        farOffArguments(siblings(4, 21));
        farOffArguments(line(NESTED, 40, 300));
        end();
    }
}
