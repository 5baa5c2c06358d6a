/**
 * The boundary cases that the promises 1 to 18 and 23 to 25 name, a method a promise, a says() a
 * sentence; the answers were worked out by hand. (MARKS are in MarksEdgeTest, undo is in
 * UndoEdgeTest, and what is refused, with all that it must not change, in RefusedTest.)
 */
public final class PromiseEdgeTest extends HallCheck {

    private static void promise1NewObject() {
        says("Promise 1: No ROWS, no THINGS, no MARKS.");
        LabelHall x = new LabelHall();
        for (int what = 0; what <= 5; what++) {
            due("count(" + what + ")", x.count(what), 0);
        }
        for (int n = 0; n < 20; n++) {
            due("rowOf(" + n + ")", x.rowOf(n), BAD);
            due("marked(" + n + ")", x.marked(n), BAD);
            due("about(" + n + ", 2)", x.about(n, 2), BAD);
        }
        due("drop", x.drop(0), BAD);
        due("move", x.move(0, NONE, false), BAD);
        due("join", x.join(0, 1), BAD);
        due("split", x.split(0, 1), BAD);
        due("putAt", x.putAt(0), BAD);
        due("undo", x.undo(), NO);
        due("another object has its own rows", hallWith(TIGHT, 4).count(5), 1);
        due("this one has none still", x.count(5), 0);
    }

    private static void promise2Row() {
        says("Promise 2: A ROW is of a KIND and WIDTH, and empty: 0.");
        for (int kind = TIGHT; kind <= NESTED; kind++) {
            LabelHall x = new LabelHall();
            due("row", x.row(7, kind, 4 + 12 * kind), 0);
            int[] want = {kind, 4 + 12 * kind, 0, 0, 0};
            for (int what = 0; what < 5; what++) {
                due("about(7, " + what + ")", x.about(7, what), want[what]);
            }
            due("at(7, 0)", x.at(7, 0), NONE);
            says("Promise 2: NO: there is that ROW.");
            due("an empty one", x.row(7, kind, 4 + 12 * kind), NO);
            due("put", x.put(7, NONE, false), 0);
            due("one with a thing", x.row(7, TIGHT, 4), NO);
            due("drop", x.drop(0), 1);
            due("one that is empty again", x.row(7, TIGHT, 4), NO);
            due("it is as it was", x.about(7, 1), 4 + 12 * kind);
        }
    }

    private static void promise3Put() {
        says("Promise 3: right behind another THING of it (.. behind NONE: at its beginning): its number");
        LabelHall x = hallWith(SPREAD, 10);
        due("into an empty row", x.put(0, NONE, false), 0);
        due("behind the only one", x.put(0, 0, false), 1);
        due("behind the first", x.put(0, 0, false), 2);
        due("at the beginning", x.put(0, NONE, false), 3);
        due("behind the last", x.put(0, 1, false), 4);
        order("5", x, 0, 3, 0, 2, 1, 4);
        says("Promise 3: (end: behind its END, in a NESTED one ..) In a NESTED one its END comes right behind it.");
        LabelHall y = line(NESTED, 10, 1);
        due("behind the END", y.put(0, 0, true), 1);
        due("not within", y.holds(0, 1), 0);
        due("behind it", y.put(0, 0, false), 2);
        due("within", y.holds(0, 2), 1);
        due("ahead of what is within", y.put(0, 0, false), 3);
        due("side by side", y.holds(3, 2), 0);
        due("behind the END, ahead of 1", y.put(0, 0, true), 4);
        order("5", y, 0, 0, 3, 2, 4, 1);
        says("Promise 3: BAD: there is no such ROW, or THING in it; end in a ROW that is not NESTED (or with NONE)");
        LabelHall z = mixedHall();
        for (int r : NO_ROWS) {
            due("row " + r, z.put(r, NONE, false), BAD);
        }
        for (int t : NO_THINGS) {
            due("behind " + t, z.put(3, t, false), BAD);
            due("behind the END of " + t, z.put(3, t, true), BAD);
        }
        due("end in a tight one", z.put(0, 0, true), BAD);
        due("end in a spread one", z.put(1, 2, true), BAD);
        due("end in a blocked one", z.put(2, 4, true), BAD);
        due("end with NONE", z.put(3, NONE, true), BAD);
        due("of another row", z.put(3, 0, false), BAD);
    }

    private static void promise4Drop() {
        says("Promise 4: A THING goes, with its END and all WITHIN it: how many THINGS went.");
        LabelHall x = siblings(10, 3);
        due("none within", x.drop(1), 1);
        order("2", x, 0, 0, 2);
        due("its END went, too", x.label(1, true), BAD);
        due("the last", x.drop(2), 1);
        due("the only one", x.drop(0), 1);
        order("none", x, 0);
        LabelHall y = line(NESTED, 40, 300);
        due("the innermost", y.drop(299), 1);
        due("all of the rest", y.drop(0), 299);
        order("none", y, 0);
        due("in rows", y.count(0), 0);
        due("blocks", y.about(0, 3), 0);
        says("Promise 4: BAD.");
        due("gone", y.drop(0), BAD);
        due("gone within another", y.drop(1), BAD);
        LabelHall z = mixedHall();
        due("drop(-1)", z.drop(-1), BAD);
        for (int t : NO_THINGS) {
            due("drop(" + t + ")", z.drop(t), BAD);
        }
    }

    private static void promise5Move() {
        says("Promise 5: comes .. behind another THING of the same ROW, or at its beginning");
        for (int kind = TIGHT; kind <= NESTED; kind++) {
            LabelHall x = kind == NESTED ? siblings(10, 3) : line(kind, 10, 3);
            boolean end = kind == NESTED;
            due("the first behind the last", x.move(0, 2, end), 1);
            order("moved", x, 0, 1, 2, 0);
            due("the last to the beginning", x.move(0, NONE, false), 1);
            order("moved", x, 0, 0, 1, 2);
            due("the first to the beginning", x.move(0, NONE, false), 1);
            due("the last behind the one ahead of it", x.move(2, 1, end), 1);
            order("as it was", x, 0, 0, 1, 2);
            due("numbers stay", x.count(1), 3);
        }
        LabelHall y = line(TIGHT, 10, 1);
        due("the only one", y.move(0, NONE, false), 1);
        due("where a first one comes", y.label(0, false), 511);
    }

    private static void promise5MoveFamilies() {
        says("Promise 5: A THING, with its END and all WITHIN it .. how many THINGS moved");
        LabelHall x = family();
        due("first within the one around it", x.move(3, 0, false), 1);
        order("moved", x, 0, 0, 3, 1, 2, 4);
        due("still within", x.near(3, 2), 0);
        due("behind the END of the one around it", x.move(1, 0, true), 2);
        order("moved", x, 0, 0, 3, 1, 2, 4);
        due("no more within", x.near(1, 2), NONE);
        due("2 within 1 still", x.near(2, 2), 1);
        due("all into the last", x.move(0, 4, false), 2);
        order("moved", x, 0, 1, 2, 4, 0, 3);
        due("depth", x.depth(3), 2);
        says("Promise 5: NO: the other one is itself or WITHIN it");
        due("itself", x.move(4, 4, false), NO);
        due("its own END", x.move(4, 4, true), NO);
        due("within it", x.move(4, 0, false), NO);
        due("the END of one within it", x.move(4, 0, true), NO);
        due("deeper within it", x.move(4, 3, true), NO);
        due("side by side is not within", x.move(4, 1, true), 3);
        due("the one around it is not within", x.move(3, 0, true), 1);
        LabelHall y = line(NESTED, 40, 300);
        due("299 within it", y.move(0, 299, false), NO);
        due("itself", y.move(0, 0, true), NO);
        due("all 300", y.move(0, NONE, false), 300);
        due("depth", y.depth(299), 299);
    }

    private static void promise5MoveBad() {
        says("Promise 5: BAD: things, end (as in put()), the other one is in another ROW");
        LabelHall x = mixedHall();
        due("move(-1)", x.move(-1, NONE, false), BAD);
        for (int t : NO_THINGS) {
            due("move(" + t + ")", x.move(t, NONE, false), BAD);
            due("behind " + t, x.move(6, t, false), BAD);
        }
        due("both", x.move(9, 9, false), BAD);
        due("end, tight", x.move(0, 1, true), BAD);
        due("end, blocked", x.move(4, 5, true), BAD);
        due("end, NONE", x.move(6, NONE, true), BAD);
        due("another row", x.move(0, 3, false), BAD);
        due("another row", x.move(6, 3, false), BAD);
        due("changes", x.count(3), 8);
    }

    private static void promise6Join() {
        says("Promise 6: All of a ROW comes to the end of another one of the same KIND .. how many THINGS");
        for (int kind = TIGHT; kind <= NESTED; kind++) {
            LabelHall x = line(kind, 10, 2);
            x.row(7, kind, 4);
            x.row(6, kind, 40);
            due("two empty ones", x.join(7, 6), 0);
            due("an empty one comes", x.join(7, 0), 0);
            order("as before", x, 0, 0, 1);
            due("to an empty one, of another width", x.join(0, 7), 2);
            order("emptied", x, 0);
            order("came", x, 7, 0, 1);
            due("the first has the label of a first one", x.label(0, false), 7);
            due("anew into the emptied one", x.put(0, NONE, false), 2);
            due("to the end", x.join(7, 0), 2);
            order("came", x, 0, 2, 0, 1);
            due("blocks of the emptied one", x.about(7, 3), 0);
        }
        says("Promise 6: BAD: rows, the same one; NO: they are of unlike KINDS");
        LabelHall y = mixedHall();
        for (int r : NO_ROWS) {
            due("join(" + r + ", 0)", y.join(r, 0), BAD);
            due("join(0, " + r + ")", y.join(0, r), BAD);
        }
        due("the same one", y.join(7, 7), BAD);
        due("NESTED ones are BLOCKED, too, but of another KIND", y.join(3, 2), NO);
        due("SPREAD ones are TIGHT, too, but of another KIND", y.join(1, 0), NO);
        due("the other way", y.join(0, 1), NO);
    }

    private static void promise6JoinUpToFull() {
        says("Promise 6: FULL");
        int[] room = {16, 8, 43, 21};
        for (int kind = TIGHT; kind <= NESTED; kind++) {
            for (int more = 0; more < 2; more++) {
                LabelHall x = kind == NESTED ? siblings(12, room[kind] + more) : line(kind, 12, room[kind] + more);
                x.row(1, kind, 4);
                due("kind " + kind + ", " + more + " more", x.join(0, 1), more == 0 ? room[kind] : FULL);
                due("came", x.about(1, 2), more == 0 ? room[kind] : 0);
                due("stayed", x.about(0, 2), more == 0 ? 0 : room[kind] + 1);
            }
        }
        LabelHall y = line(TIGHT, 40, 300);
        y.row(1, TIGHT, 9);
        due("300 are not too many", y.join(0, 1), 300);
        y.row(2, TIGHT, 8);
        due("300 into 2^8", y.join(1, 2), FULL);
    }

    private static void promise7Split() {
        says("Promise 7: All that stands behind a THING .. comes .. to the end of another ROW: how many THINGS");
        for (int kind = TIGHT; kind <= NESTED; kind++) {
            LabelHall x = kind == NESTED ? siblings(10, 4) : line(kind, 10, 4);
            x.row(7, kind, 4);
            due("behind the last there is none", x.split(3, 7), 0);
            order("none came", x, 7);
            due("behind the last but one", x.split(2, 7), 1);
            order("stay", x, 0, 0, 1, 2);
            due("behind the first", x.split(0, 7), 2);
            order("stays", x, 0, 0);
            order("to the end", x, 7, 3, 1, 2);
            due("all but the first back", x.split(3, 0), 2);
            order("to the end", x, 0, 0, 1, 2);
        }
        says("Promise 7: (in a NESTED ROW: behind its END; it must be WITHIN none)");
        LabelHall y = family();
        y.row(1, NESTED, 10);
        due("within one", y.split(3, 1), NO);
        due("within two", y.split(2, 1), NO);
        due("behind the END of the last there is none", y.split(4, 1), 0);
        due("behind the END of 0", y.split(0, 1), 1);
        order("all within it stay", y, 0, 0, 1, 2, 3);
        says("Promise 7: BAD: thing, row, the same row; NO: KINDS");
        LabelHall z = mixedHall();
        due("split(-1)", z.split(-1, 7), BAD);
        for (int t : NO_THINGS) {
            due("split(" + t + ")", z.split(t, 7), BAD);
        }
        for (int r : NO_ROWS) {
            due("to " + r, z.split(0, r), BAD);
        }
        due("the same row", z.split(1, 0), BAD);
        due("kinds", z.split(1, 1), NO);
        due("kinds", z.split(2, 7), NO);
        due("the same kind", z.split(0, 7), 1);
    }

    private static void promise7SplitUpToFull() {
        says("Promise 7: FULL");
        int[] room = {16, 8, 43, 21};
        for (int kind = TIGHT; kind <= NESTED; kind++) {
            int n = room[kind] + 2;
            LabelHall x = kind == NESTED ? siblings(12, n) : line(kind, 12, n);
            x.row(1, kind, 4);
            due("kind " + kind + ": one too many", x.split(0, 1), FULL);
            due("none came", x.about(1, 2), 0);
            due("all stay", x.about(0, 2), n);
            due("as many as there is room", x.split(1, 1), room[kind]);
        }
    }

    private static void promise8Less() {
        says("Promise 8: 1 the first, 2 the second, 0 they are one");
        LabelHall x = line(BLOCKED, 10, 20);
        for (int i = 0; i < 20; i++) {
            due("one", x.less(i, i), 0);
            due("to the last", x.less(i, 19), i < 19 ? 1 : 0);
            due("to the first", x.less(i, 0), i > 0 ? 2 : 0);
            due("side by side", x.less(i, (i + 1) % 20), i < 19 ? 1 : 2);
        }
        LabelHall y = line(TIGHT, 40, 42);
        due("far apart in 2^40", y.less(0, 41), 1);
        due("far apart in 2^40", y.less(41, 0), 2);
        due("one within the other", family().less(0, 2), 1);
        due("one within the other", family().less(2, 0), 2);
        says("Promise 8: BAD; NO: they are in two ROWS.");
        badPairs("less", LabelHall::less);
        due("two rows", mixedHall().less(0, 2), NO);
        due("two rows of one kind", twoFamilies().less(0, 5), NO);
    }

    /** A call of two things. */
    private interface Pair {
        int ask(LabelHall x, int thing, int other);
    }

    private static void badPairs(String name, Pair call) {
        LabelHall x = mixedHall();
        due(name + "(-1, 0)", call.ask(x, -1, 0), BAD);
        due(name + "(0, -1)", call.ask(x, 0, -1), BAD);
        due(name + "(-1, -1)", call.ask(x, -1, -1), BAD);
        for (int t : NO_THINGS) {
            due(name + "(" + t + ", 6)", call.ask(x, t, 6), BAD);
            due(name + "(6, " + t + ")", call.ask(x, 6, t), BAD);
            due(name + "(" + t + ", " + t + ")", call.ask(x, t, t), BAD);
        }
    }

    /** The family in row 0, and one more thing, 5, in row 1, which is nested too. */
    private static LabelHall twoFamilies() {
        LabelHall x = family();
        x.row(1, NESTED, 20);
        due("two families: put", x.put(1, NONE, false), 5);
        return x;
    }

    private static void promise9Label() {
        says("Promise 9: The LABEL of a THING (end: of its END; of a BLOCKED one that of its BLOCK)");
        LabelHall x = line(TIGHT, 40, 41);
        due("the greatest of all", x.label(40, false), (1L << 40) - 1);
        due("the least of all", backwards(TIGHT, 40, 40).label(39, false), 0);
        LabelHall y = siblings(40, 5);
        due("the block of an END", y.label(2, true), (3L << 38) - 1);
        due("the block of its THING", y.label(2, false), (1L << 39) - 1);
        says("Promise 9: BAD: thing; end without an END.");
        LabelHall z = mixedHall();
        due("end, tight", z.label(0, true), BAD);
        due("end, spread", z.label(2, true), BAD);
        due("end, blocked", z.label(4, true), BAD);
        // As 10 came the block of 6, 7, 8 and 9 was parted ahead of the END of 6.
        due("end, nested", z.label(6, true), 383);
        due("label(-1, false)", z.label(-1, false), BAD);
        due("label(-1, true)", z.label(-1, true), BAD);
        for (int t : NO_THINGS) {
            due("label(" + t + ", false)", z.label(t, false), BAD);
            due("label(" + t + ", true)", z.label(t, true), BAD);
        }
    }

    private static void promise10Inner() {
        says("Promise 10: Its INNER label");
        due("the greatest", line(BLOCKED, 4, 8).inner(7, false), 255);
        due("the least", backwards(BLOCKED, 4, 8).inner(7, false), 0);
        due("of an END", siblings(4, 4).inner(3, true), 255);
        says("Promise 10: NONE in a ROW without BLOCKS.");
        LabelHall x = mixedHall();
        due("tight", x.inner(0, false), NONE);
        due("spread", x.inner(2, false), NONE);
        due("blocked", x.inner(4, false), 128);
        due("nested, first of 5 that were dealt", x.inner(6, false), 25);
        says("Promise 10: BAD, as for label().");
        due("end, tight", x.inner(0, true), BAD);
        due("end, spread", x.inner(2, true), BAD);
        due("end, blocked", x.inner(4, true), BAD);
        due("inner(-1, false)", x.inner(-1, false), BAD);
        due("inner(-1, true)", x.inner(-1, true), BAD);
        for (int t : NO_THINGS) {
            due("inner(" + t + ", false)", x.inner(t, false), BAD);
            due("inner(" + t + ", true)", x.inner(t, true), BAD);
        }
    }

    private static void promise11Near() {
        says("Promise 11: right behind a THING (what 1), ahead of it (0) .. NONE");
        for (int kind = TIGHT; kind <= NESTED; kind++) {
            LabelHall x = line(kind, 10, 10);
            due("ahead of the first", x.near(0, 0), NONE);
            due("behind the last", x.near(9, 1), NONE);
            due("behind the first", x.near(0, 1), 1);
            due("ahead of the second", x.near(1, 0), 0);
            due("behind the last but one", x.near(8, 1), 9);
            due("ahead of the last", x.near(9, 0), 8);
            LabelHall y = line(kind, 10, 1);
            for (int what = 0; what < 4; what++) {
                due("the only one: " + what, y.near(0, what), NONE);
            }
        }
        LabelHall z = twoFamilies();
        due("the first of another row has none ahead", z.near(5, 0), NONE);
        due("the last of a row has none behind", z.near(4, 1), NONE);
        due("by the ROW without ENDS", z.near(2, 1), 3);
        due("by the ROW without ENDS", z.near(4, 0), 3);
        says("Promise 11: the innermost one WITHIN which it is (2); the first one WITHIN it (3). NONE.");
        int[] around = {NONE, 0, 1, 0, NONE, NONE};
        int[] first = {1, 2, NONE, NONE, NONE, NONE};
        for (int t = 0; t < 6; t++) {
            due("near(" + t + ", 2)", z.near(t, 2), around[t]);
            due("near(" + t + ", 3)", z.near(t, 3), first[t]);
        }
        LabelHall flat = line(BLOCKED, 10, 3);
        due("not nested", flat.near(1, 2), NONE);
        due("not nested", flat.near(1, 3), NONE);
        says("Promise 11: BAD: thing, what.");
        LabelHall m = mixedHall();
        for (int what : new int[] {LEAST, -1, 4, GREATEST}) {
            due("near(6, " + what + ")", m.near(6, what), BAD);
        }
        for (int what = 0; what < 4; what++) {
            due("near(-1, " + what + ")", m.near(-1, what), BAD);
            for (int t : NO_THINGS) {
                due("near(" + t + ", " + what + ")", m.near(t, what), BAD);
            }
        }
    }

    private static void promise12Index() {
        says("Promise 12: How many THINGS stand ahead of a THING in its ROW. BAD.");
        LabelHall x = twoFamilies();
        due("the first", x.index(0), 0);
        due("the last: ENDS don't count", x.index(4), 4);
        due("the first of another row", x.index(5), 0);
        due("of 300", line(NESTED, 40, 300).index(299), 299);
        LabelHall y = mixedHall();
        due("index(-1)", y.index(-1), BAD);
        for (int t : NO_THINGS) {
            due("index(" + t + ")", y.index(t), BAD);
        }
    }

    private static void promise13At() {
        says("Promise 13: THING i of a ROW; NONE: there are not so many.");
        LabelHall x = line(NESTED, 10, 3);
        due("the first", x.at(0, 0), 0);
        due("the last", x.at(0, 2), 2);
        due("one more", x.at(0, 3), NONE);
        due("as many as stand with their ENDS", x.at(0, 5), NONE);
        due("the greatest", x.at(0, GREATEST), NONE);
        x.row(7, TIGHT, 4);
        due("an empty row", x.at(7, 0), NONE);
        due("an empty row", x.at(7, GREATEST), NONE);
        says("Promise 13: BAD: row; i is below 0.");
        due("-1", x.at(0, -1), BAD);
        due("the least", x.at(0, LEAST), BAD);
        due("-1 of an empty row", x.at(7, -1), BAD);
        LabelHall y = mixedHall();
        for (int r : NO_ROWS) {
            due("at(" + r + ", 0)", y.at(r, 0), BAD);
            due("at(" + r + ", -1)", y.at(r, -1), BAD);
        }
    }

    private static void promise14Between() {
        says("Promise 14: How many THINGS stand between two of one ROW (0 if they are one).");
        LabelHall x = twoFamilies();
        due("one", x.between(2, 2), 0);
        due("the only one of a row", x.between(5, 5), 0);
        due("side by side", x.between(2, 3), 0);
        due("side by side", x.between(3, 2), 0);
        due("one between", x.between(1, 3), 1);
        due("the ends of the row", x.between(0, 4), 3);
        due("the other way", x.between(4, 0), 3);
        due("of 300", line(TIGHT, 40, 300).between(299, 0), 298);
        says("Promise 14: BAD; NO: they are in two ROWS.");
        badPairs("between", LabelHall::between);
        due("two rows", x.between(0, 5), NO);
        due("two rows", x.between(5, 0), NO);
    }

    private static void promise15Holds() {
        says("Promise 15: Whether a THING has another one WITHIN it: 1, 0 (not itself).");
        LabelHall x = twoFamilies();
        due("itself", x.holds(0, 0), 0);
        due("right within", x.holds(0, 1), 1);
        due("deeper within", x.holds(0, 2), 1);
        due("the last within", x.holds(0, 3), 1);
        due("right behind its END", x.holds(0, 4), 0);
        due("the other way", x.holds(1, 0), 0);
        due("side by side", x.holds(1, 3), 0);
        due("another row", x.holds(0, 5), 0);
        due("another row", x.holds(5, 0), 0);
        due("not nested", line(SPREAD, 10, 2).holds(0, 1), 0);
        due("299 deep", line(NESTED, 40, 300).holds(0, 299), 1);
        says("Promise 15: BAD.");
        badPairs("holds", LabelHall::holds);
    }

    private static void promise16Meet() {
        says("Promise 16: The innermost THING that has two WITHIN it, or is one of them .. or is both; NONE.");
        LabelHall x = twoFamilies();
        due("both", x.meet(5, 5), 5);
        due("both, within another", x.meet(2, 2), 2);
        due("one of them", x.meet(0, 2), 0);
        due("one of them", x.meet(2, 0), 0);
        due("right within", x.meet(1, 2), 1);
        due("has the two", x.meet(2, 3), 0);
        due("has the two", x.meet(3, 1), 0);
        due("none", x.meet(0, 4), NONE);
        due("none", x.meet(4, 2), NONE);
        due("not nested, both", line(TIGHT, 10, 2).meet(1, 1), 1);
        due("not nested, two", line(TIGHT, 10, 2).meet(0, 1), NONE);
        due("299 deep", line(NESTED, 40, 300).meet(299, 298), 298);
        says("Promise 16: BAD; NO: they are in two ROWS.");
        badPairs("meet", LabelHall::meet);
        due("two rows", x.meet(0, 5), NO);
        due("two rows", x.meet(5, 4), NO);
    }

    private static void promise17Depth() {
        says("Promise 17: In how many THINGS it is WITHIN. BAD.");
        LabelHall x = twoFamilies();
        int[] want = {0, 1, 2, 1, 0, 0};
        for (int t = 0; t < 6; t++) {
            due("depth(" + t + ")", x.depth(t), want[t]);
        }
        for (int kind = TIGHT; kind <= BLOCKED; kind++) {
            due("not nested", line(kind, 10, 3).depth(2), 0);
        }
        due("299 deep", line(NESTED, 40, 300).depth(299), 299);
        LabelHall y = mixedHall();
        due("depth(-1)", y.depth(-1), BAD);
        for (int t : NO_THINGS) {
            due("depth(" + t + ")", y.depth(t), BAD);
        }
    }

    private static void promise18RowOf() {
        says("Promise 18: The ROW of a THING; NONE: it is gone. BAD: there was none such.");
        LabelHall x = mixedHall();
        due("in row 0", x.rowOf(0), 0);
        due("in row 3", x.rowOf(8), 3);
        due("dropped", x.rowOf(9), NONE);
        due("dropped within another", x.rowOf(10), NONE);
        due("taken back", x.rowOf(11), NONE);
        due("not come yet", x.rowOf(12), BAD);
        for (int t : new int[] {LEAST, -1, 299, 300, GREATEST}) {
            due("rowOf(" + t + ")", x.rowOf(t), BAD);
        }
        LabelHall y = line(TIGHT, 40, 300);
        due("the last of 300", y.rowOf(299), 0);
        due("300", y.rowOf(300), BAD);
        LabelHall z = new LabelHall();
        z.row(7, TIGHT, 4);
        z.put(7, NONE, false);
        due("in row 7", z.rowOf(0), 7);
        z.drop(0);
        due("a drop", z.rowOf(0), NONE);
        z.undo();
        due("a drop that is taken back", z.rowOf(0), 7);
    }

    private static void promise23About() {
        says("Promise 23: what 0 its KIND, 1 WIDTH, 2 THINGS, 3 BLOCKS (0 without), 4 .. BAD.");
        LabelHall x = mixedHall();
        for (int what : new int[] {LEAST, -1, 5, GREATEST}) {
            due("about(3, " + what + ")", x.about(3, what), BAD);
        }
        for (int r : NO_ROWS) {
            for (int what = -1; what <= 5; what++) {
                due("about(" + r + ", " + what + ")", x.about(r, what), BAD);
            }
        }
        due("things, not ENDS", x.about(3, 2), 3);
        due("an empty row", x.about(4, 2), 0);
        due("an empty row has no blocks", x.about(4, 3), 0);
        due("tight: without", x.about(0, 3), 0);
        due("spread: without", x.about(1, 3), 0);
        due("blocked", x.about(2, 3), 1);
        due("nested: the END of 6 has the second", x.about(3, 3), 2);
        due("300 things", line(NESTED, 40, 300).about(0, 2), 300);
    }

    private static void promise23Greatest() {
        says("Promise 23: the greatest number that was DEALT at once in it (the new one counts; 0 at first)");
        LabelHall x = line(TIGHT, 4, 5);
        x.row(1, TIGHT, 4);
        due("0 at first", x.about(0, 4), 0);
        due("dealt", x.put(0, 4, false), 5);
        due("6, with the new one", x.about(0, 4), 6);
        due("not in the other row", x.about(1, 4), 0);
        due("all go", x.join(0, 1), 6);
        due("the greatest that was", x.about(0, 4), 6);
        due("there 6 came: 5 places, then a dealing", x.about(1, 4), 6);
        LabelHall y = line(SPREAD, 4, 7);
        due("7 of 7", y.about(0, 4), 7);
        due("3 go", y.drop(0) + y.drop(1) + y.drop(2), 3);
        due("8, 10, 12, 14, then 15", y.put(0, 6, false), 7);
        due("[12, 16) would have 4, [8, 16) has 6: 16 has 6", y.put(0, 7, false), 8);
        due("less than once: 7 still", y.about(0, 4), 7);
        says("Promise 23: of BLOCKS or of INNER ones");
        LabelHall z = line(BLOCKED, 4, 8);
        due("one goes", z.drop(0), 1);
        due("8 INNER ones", z.put(0, 7, false), 8);
        due("8", z.about(0, 4), 8);
        int most = 0;
        LabelHall many = hallWith(BLOCKED, 6);
        for (int i = 0; i < 160; i++) {
            due("put", many.put(0, i - 1, false), i);
            most = Math.max(most, many.about(0, 4));
        }
        due("BLOCKS were dealt, more than 9 at once", most > 9 ? 1 : 0, 1);
        due("it stays the greatest", many.about(0, 4), most);
    }

    private static void promise24IsOf() {
        says("Promise 24: Whether a ROW is of a KIND: 1, 0. BAD.");
        LabelHall x = mixedHall();
        for (int r = 0; r < 4; r++) {
            for (int kind = 0; kind < 4; kind++) {
                due("isOf(" + r + ", " + kind + ")", x.isOf(r, kind), kind <= r ? 1 : 0);
            }
            for (int kind : new int[] {LEAST, -1, 4, GREATEST}) {
                due("isOf(" + r + ", " + kind + ")", x.isOf(r, kind), BAD);
            }
        }
        for (int r : NO_ROWS) {
            for (int kind = -1; kind <= 4; kind++) {
                due("isOf(" + r + ", " + kind + ")", x.isOf(r, kind), BAD);
            }
        }
    }

    private static void promise25Count() {
        says("Promise 25: What 0 THINGS that are in ROWS, 1 .. ever .., 2 RENAMED, 3 .. kept, 4 MARKS, 5 ROWS. BAD.");
        LabelHall x = mixedHall();
        int[] want = {9, 12, 9, 8, 4, 6};
        for (int what = 0; what < 6; what++) {
            due("count(" + what + ")", x.count(what), want[what]);
        }
        for (int what : new int[] {LEAST, -1, 6, GREATEST}) {
            due("count(" + what + ")", x.count(what), BAD);
        }
        LabelHall y = line(NESTED, 40, 300);
        due("300 in rows, without ENDS", y.count(0), 300);
        due("300 ever", y.count(1), 300);
        due("all go", y.drop(0), 300);
        due("none in rows", y.count(0), 0);
        due("300 ever", y.count(1), 300);
        for (int m = 0; m < 20; m++) {
            y.mark(m, 0, NONE, 0);
        }
        due("20 marks", y.count(4), 20);
        for (int r = 1; r < 8; r++) {
            y.row(r, TIGHT, 4);
        }
        due("8 rows", y.count(5), 8);
    }

    public static void main(String[] args) {
        begin("PromiseEdgeTest");
        promise1NewObject();
        promise2Row();
        promise3Put();
        promise4Drop();
        promise5Move();
        promise5MoveFamilies();
        promise5MoveBad();
        promise6Join();
        promise6JoinUpToFull();
        promise7Split();
        promise7SplitUpToFull();
        promise8Less();
        promise9Label();
        promise10Inner();
        promise11Near();
        promise12Index();
        promise13At();
        promise14Between();
        promise15Holds();
        promise16Meet();
        promise17Depth();
        promise18RowOf();
        promise23About();
        promise23Greatest();
        promise24IsOf();
        promise25Count();
        end();
    }
}
