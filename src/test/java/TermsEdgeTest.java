/**
 * The boundary cases that "What it is" and the parts 1 and 2 of the Terms name, a method a
 * sentence; the answers were worked out by hand.
 */
public final class TermsEdgeTest extends HallCheck {

    private static void theLastOf512Calls() {
        says("An object is used for at most 512 calls after it has been made");
        LabelHall x = line(TIGHT, 40, 300);
        for (int call = 302; call <= 511; call++) {
            due("call " + call, x.move(0, call % 2 == 0 ? 299 : NONE, false), 1);
        }
        due("call 512", x.undo(), 7);
        LabelHall y = line(NESTED, 40, 300);
        for (int call = 302; call <= 511; call++) {
            due("call " + call, y.mark(call % 20, 0, call - 302, call % 2), 0);
        }
        due("call 512", y.depth(299), 299);
        LabelHall z = line(BLOCKED, 40, 300);
        for (int call = 302; call <= 511; call++) {
            due("call " + call, z.drop(call - 302), 1);
        }
        due("call 512", z.count(0), 90);
    }

    // ---- part 1

    private static void rowsAtFirst() {
        says("ROWS 0 .. 7 each are none (at first)");
        LabelHall x = new LabelHall();
        for (int r = 0; r < 8; r++) {
            due("about(" + r + ", 0)", x.about(r, 0), BAD);
            due("isOf(" + r + ", 0)", x.isOf(r, 0), BAD);
            due("at(" + r + ", 0)", x.at(r, 0), BAD);
            due("put(" + r + ", -1, false)", x.put(r, NONE, false), BAD);
            due("mark(0, " + r + ", -1, 0)", x.mark(0, r, NONE, 0), BAD);
        }
        due("row -1", x.row(-1, TIGHT, 4), BAD);
        due("row 8", x.row(8, TIGHT, 4), BAD);
        for (int r = 0; r < 8; r++) {
            due("row(" + r + ", 0, 4)", x.row(r, TIGHT, 4), 0);
            due("count(5)", x.count(5), r + 1);
        }
        due("row -1 with 8 rows", x.about(-1, 0), BAD);
        due("row 8 with 8 rows", x.about(8, 0), BAD);
    }

    private static void widths() {
        says("a WIDTH w, 4 .. 40");
        for (int kind = TIGHT; kind <= NESTED; kind++) {
            LabelHall x = new LabelHall();
            due("width 3", x.row(kind, kind, 3), BAD);
            due("width 41", x.row(kind, kind, 41), BAD);
            due("width 36 and 2^32 less", x.row(kind, kind, LEAST + 36), BAD);
            due("width 4", x.row(kind, kind, 4), 0);
            due("width 40", x.row(kind + 4, kind, 40), 0);
            due("about width 4", x.about(kind, 1), 4);
            due("about width 40", x.about(kind + 4, 1), 40);
        }
    }

    /** At the beginning labels are 2^(w-1) - 1, 2^(w-2) - 1, .., 0; at the end 2^w - 2^(w-1) - 1, .. */
    private static void leastAndGreatestLabel() {
        says("their LABELS are 0 .. 2^w - 1, and rise along the ROW");
        for (int w = 4; w <= 40; w++) {
            for (int kind = TIGHT; kind <= SPREAD; kind++) {
                LabelHall x = backwards(kind, w, w);
                LabelHall y = line(kind, w, w + 1);
                for (int k = 0; k < w; k++) {
                    due("from the beginning", x.label(k, false), (1L << w - 1 - k) - 1);
                    due("to the end", y.label(k, false), (1L << w) - (1L << w - 1 - k) - 1);
                }
                due("the least", x.label(w - 1, false), 0);
                due("the greatest", y.label(w, false), (1L << w) - 1);
                due("none was dealt", x.about(0, 4) + y.about(0, 4), 0);
            }
            due("of a block", line(BLOCKED, w, 1).label(0, false), (1L << w - 1) - 1);
        }
    }

    private static void labelsRise() {
        says("their LABELS .. rise along the ROW");
        for (int kind = TIGHT; kind <= BLOCKED; kind++) {
            LabelHall x = hallWith(kind, 12);
            for (int i = 0; i < 140; i++) {
                due("put", x.put(0, i % 3 == 0 ? NONE : i / 2, false), i);
            }
            for (int i = 0; i + 1 < 140; i++) {
                int ahead = x.at(0, i);
                int behind = x.at(0, i + 1);
                long a = x.label(ahead, false) * 256 + (kind == BLOCKED ? x.inner(ahead, false) : 0);
                long b = x.label(behind, false) * 256 + (kind == BLOCKED ? x.inner(behind, false) : 0);
                due("rises at " + i, a < b ? 1 : 0, 1);
            }
        }
    }

    private static void kinds() {
        says("KINDS: 0 TIGHT, 1 SPREAD, 2 BLOCKED, 3 NESTED. (SPREAD ones are TIGHT, too; ..)");
        LabelHall x = new LabelHall();
        due("kind -1", x.row(0, -1, 4), BAD);
        due("kind 4", x.row(0, 4, 4), BAD);
        int[][] want = {{1, 0, 0, 0}, {1, 1, 0, 0}, {1, 1, 1, 0}, {1, 1, 1, 1}};
        for (int kind = 0; kind < 4; kind++) {
            due("kind " + kind, x.row(kind, kind, 4), 0);
            for (int of = 0; of < 4; of++) {
                due("isOf(" + kind + ", " + of + ")", x.isOf(kind, of), want[kind][of]);
            }
        }
    }

    private static void threeHundredInAll() {
        says("THINGS, numbered from 0 as they come, 300 at most in all");
        LabelHall x = hallWith(TIGHT, 40);
        x.row(7, NESTED, 40);
        due("the first in row 7", x.put(7, NONE, false), 0);
        for (int i = 1; i < 300; i++) {
            due("number " + i, x.put(i % 2 == 0 ? 7 : 0, NONE, false), i);
        }
        due("the 301st", x.put(0, NONE, false), FULL);
        due("in the other row", x.put(7, NONE, false), FULL);
        due("ever", x.count(1), 300);
        due("in rows", x.count(0), 300);
        due("in row 0", x.about(0, 2), 150);
        due("in row 7", x.about(7, 2), 150);
    }

    private static void numbersAreNotGivenAgain() {
        says("300 at most in all, never given again");
        LabelHall x = line(TIGHT, 40, 299);
        due("drop", x.drop(298), 1);
        due("after a drop", x.put(0, NONE, false), 299);
        due("undo", x.undo(), 7);
        due("after an undo", x.put(0, NONE, false), FULL);
        due("drop", x.drop(0), 1);
        due("with 297 in rows", x.put(0, NONE, false), FULL);
        due("in rows", x.count(0), 297);
        due("ever", x.count(1), 300);
        due("the one that was taken back", x.rowOf(299), NONE);
        due("moves are no new ones", x.move(1, 297, false), 1);
    }

    private static void inOneRowOrGone() {
        says("each is in one ROW, or gone");
        LabelHall x = line(TIGHT, 10, 3);
        x.row(1, TIGHT, 10);
        due("join", x.join(0, 1), 3);
        for (int t = 0; t < 3; t++) {
            due("rowOf", x.rowOf(t), 1);
        }
        order("row 0", x, 0);
        order("row 1", x, 1, 0, 1, 2);
        due("drop", x.drop(1), 1);
        due("gone", x.rowOf(1), NONE);
        order("row 1", x, 1, 0, 2);
    }

    private static void placeAtTheBeginning() {
        says("a is -1 at the beginning of a ROW; A PLACE if b - a is 2 or more: (a + b) / 2");
        LabelHall x = backwards(TIGHT, 4, 4);
        labels("b - a is 16, 8, 4, 2", x, 0, 0, 1, 3, 7);
        due("nothing was dealt", x.about(0, 4), 0);
        due("b - a is 1", x.put(0, NONE, false), 4);
        due("all were dealt", x.about(0, 4), 5);
    }

    private static void placeAtTheEnd() {
        says("b is 2^w at its end; A PLACE if b - a is 2 or more: (a + b) / 2");
        LabelHall x = line(TIGHT, 4, 5);
        labels("b - a is 9, 5, 3, 2", x, 0, 7, 11, 13, 14, 15);
        due("nothing was dealt", x.about(0, 4), 0);
        due("b - a is 1", x.put(0, 4, false), 5);
        due("all were dealt", x.about(0, 4), 6);
    }

    private static void placeInTheMiddle() {
        says("there is A PLACE if b - a is 2 or more: (a + b) / 2");
        LabelHall x = line(TIGHT, 4, 2);
        due("between 7 and 11", x.put(0, 0, false), 2);
        due("9", x.label(2, false), 9);
        due("between 7 and 9: 2 apart", x.put(0, 0, false), 3);
        due("8", x.label(3, false), 8);
        due("nothing was dealt", x.about(0, 4), 0);
        due("between 7 and 8: 1 apart", x.put(0, 0, false), 4);
        due("all were dealt", x.about(0, 4), 5);
        says("All numbers are whole; / cuts.");
        LabelHall y = line(TIGHT, 5, 1);
        due("(-1 + 32) / 2", y.label(0, false), 15);
        due("between -1 and 15", y.put(0, NONE, false), 1);
        due("(-1 + 15) / 2", y.label(1, false), 7);
        due("between 15 and 32", y.put(0, 0, false), 2);
        due("(15 + 32) / 2 is 23 and a half", y.label(2, false), 23);
        due("between 15 and 23", y.put(0, 0, false), 3);
        due("between 15 and 19", y.put(0, 0, false), 4);
        due("between 15 and 17", y.put(0, 0, false), 5);
        due("(15 + 17) / 2", y.label(5, false), 16);
        due("between 17 and 19", y.put(0, 4, false), 6);
        due("between 17 and 18", y.label(6, false), 18);
    }

    private static void dealtCuts() {
        says("DEALT to a span from x on, 2^j wide, c of them: x + (2 * i + 1) * 2^j / (2 * c)");
        LabelHall x = line(TIGHT, 4, 6);
        labels("6 to 16: 16 * (1, 3, ..) / 12", x, 0, 1, 4, 6, 9, 12, 14);
        due("to the end", x.put(0, 5, false), 6);
        due("a place", x.label(6, false), 15);
        due("the eighth", x.put(0, 6, false), 7);
        labels("8 to 16", x, 0, 1, 3, 5, 7, 9, 11, 13, 15);
        due("the ninth", x.put(0, 7, false), 8);
        labels("9 to 16: 16 * (1, 3, ..) / 18", x, 0, 0, 2, 4, 6, 8, 9, 11, 13, 15);
        for (int i = 9; i < 16; i++) {
            due("put", x.put(0, i - 1, false), i);
        }
        labels("16 to 16", x, 0, 0, 1, 2, 3, 4, 5, 6, 7, 8, 9, 10, 11, 12, 13, 14, 15);
        LabelHall y = line(TIGHT, 40, 42);
        // 2^40 / 84 is 13089424140 and a bit; 83 of them leave as much at the end.
        due("42 to 2^40: the first", y.label(0, false), 13089424140L);
        due("the second", y.label(1, false), 39268272420L);
        due("the last", y.label(41, false), 1086422203635L);
        due("dealt", y.about(0, 4), 42);
    }

    // ---- part 2

    private static void tightDealsAll() {
        says("TIGHT: .. Else all are DEALT, with it, to the whole span (0, w).");
        LabelHall x = backwards(TIGHT, 10, 10);
        due("0 far off", x.label(0, false), 511);
        due("no place", x.put(0, NONE, false), 10);
        // 11 to 1024: 1024 * (2 * i + 1) / 22.
        labels("all 11", x, 0, 46, 139, 232, 325, 418, 512, 605, 698, 791, 884, 977);
        due("the new one is the first", x.at(0, 0), 10);
        due("10 had one", x.count(2), 10);
        due("11 at once", x.about(0, 4), 11);
    }

    private static void tightFull() {
        says("TIGHT: .. It is FULL if the ROW has 2^w THINGS.");
        for (int w = 4; w <= 8; w++) {
            int all = 1 << w;
            LabelHall x = line(TIGHT, w, all);
            due("w " + w + ": one more at the end", x.put(0, all - 1, false), FULL);
            due("w " + w + ": one more at the beginning", x.put(0, NONE, false), FULL);
            due("w " + w + ": one more in the middle", x.put(0, all / 2, false), FULL);
            due("w " + w + ": the least label", x.label(0, false), 0);
            due("w " + w + ": the greatest label", x.label(all - 1, false), all - 1);
            due("w " + w + ": one goes", x.drop(all / 2), 1);
            due("w " + w + ": there is room for one", x.put(0, NONE, false), all);
            due("w " + w + ": and no more", x.put(0, NONE, false), FULL);
            due("w " + w + ": things", x.about(0, 2), all);
        }
        says("TIGHT: a move comes after what goes, so 2^w THINGS are not too many for it");
        LabelHall y = line(TIGHT, 4, 16);
        due("to the end", y.move(0, 15, false), 1);
        due("its label", y.label(0, false), 15);
        due("to the beginning", y.move(7, NONE, false), 1);
        due("its label", y.label(7, false), 0);
        LabelHall z = line(TIGHT, 9, 300);
        due("2^9 is more than 300", z.about(0, 2), 300);
    }

    /** In width 4 c * 8 is not above 2^j * (8 - j) for c up to 1, 3, 5, 8 (j is 1, 2, 3, 4). */
    private static void spreadTakesTheFirstSpan() {
        says("SPREAD: the first j with c * 2 * w not above 2^j * (2 * w - j) is taken");
        LabelHall x = backwards(SPREAD, 4, 4);
        labels("halved", x, 0, 0, 1, 3, 7);
        due("[0, 4) would have 4, 32 is above 24", x.put(0, NONE, false), 4);
        labels("[0, 8) has 5, 40 is not above 40", x, 0, 0, 2, 4, 5, 7);
        due("dealt", x.about(0, 4), 5);
        due("renamed", x.count(2), 4);
        due("[0, 2) would have 2, 16 is above 14", x.put(0, NONE, false), 5);
        labels("[0, 4) has 3, 24 is not above 24", x, 0, 0, 2, 3, 4, 5, 7);
        due("renamed", x.count(2), 6);
        due("the greatest stays", x.about(0, 4), 5);
        due("[0, 8) would have 7, 56 is above 40", x.put(0, NONE, false), 6);
        labels("[0, 16) has 7, 56 is not above 64", x, 0, 1, 3, 5, 8, 10, 12, 14);
        due("dealt", x.about(0, 4), 7);
    }

    private static void spreadTakesAllAtTheLast() {
        says("SPREAD: for j = 1, 2, .., w");
        LabelHall x = line(SPREAD, 4, 7);
        labels("7 in all", x, 0, 1, 3, 5, 8, 10, 12, 14);
        due("behind 8", x.put(0, 3, false), 7);
        due("a place", x.label(7, false), 9);
        due("one goes", x.drop(0), 1);
        // [8, 10) has 3, 24 > 14; [8, 12) 4, 32 > 24; [8, 16) 6, 48 > 40; [0, 16) 8, 64 is not above 64.
        due("behind 8 again", x.put(0, 3, false), 8);
        labels("8 to 16", x, 0, 1, 3, 5, 7, 9, 11, 13, 15);
        order("in its place", x, 0, 1, 2, 3, 8, 7, 4, 5, 6);
        due("dealt", x.about(0, 4), 8);
    }

    private static void spreadSpanOfTheOneAhead() {
        says("SPREAD: the span .. has the label of the THING ahead of the new one (behind it, if none)");
        LabelHall x = line(SPREAD, 4, 1);
        for (int i = 1; i < 4; i++) {
            due("behind 0", x.put(0, 0, false), i);
        }
        labels("halved", x, 0, 7, 8, 9, 11);
        due("between 7 and 8", x.put(0, 0, false), 4);
        labels("2 to 4 .. 7, none to 8 .. 15", x, 0, 5, 7, 8, 9, 11);
        order("in its place", x, 0, 0, 4, 3, 2, 1);
        LabelHall y = backwards(SPREAD, 40, 41);
        // [0, 2) would have 3, 240 > 158; [0, 4) 4, 320 > 312; [0, 8) has 5, 400 is not above 616.
        labels("none ahead: 5 to 0 .. 7", y, 0, 0, 2, 4, 5, 7, 15, 31);
        due("dealt", y.about(0, 4), 5);
        due("none ahead", y.put(0, NONE, false), 41);
        // [0, 2) would have 2, 160 > 158; [0, 4) has 3, 240 is not above 312.
        labels("3 to 0 .. 3", y, 0, 0, 2, 3, 4, 5, 7, 15);
        due("renamed: 4 and 2", y.count(2), 6);
    }

    private static void spreadFull() {
        says("SPREAD: .. It is FULL if there is no such j.");
        LabelHall x = line(SPREAD, 4, 8);
        labels("8", x, 0, 1, 3, 5, 8, 10, 12, 14, 15);
        due("[0, 16) would have 9, 72 is above 64", x.put(0, 7, false), FULL);
        due("between 14 and 15 likewise", x.put(0, 6, false), FULL);
        due("where there is a place it is not full", x.put(0, NONE, false), 8);
        due("its label", x.label(8, false), 0);
        due("nor where a span will do: [0, 8) has 5, 40 is not above 40", x.put(0, NONE, false), 9);
        labels("10", x, 0, 0, 2, 4, 5, 7, 8, 10, 12, 14, 15);
        due("[0, 4) has 3, 24 is not above 24", x.put(0, NONE, false), 10);
        labels("11", x, 0, 0, 2, 3, 4, 5, 7, 8, 10, 12, 14, 15);
        due("then 4 and 7, 56 is above 40", x.put(0, NONE, false), FULL);
        LabelHall z = line(SPREAD, 4, 8);
        due("one goes", z.drop(0), 1);
        due("[8, 16) would have 6, [0, 16) has 8, 64 is not above 64", z.put(0, 7, false), 8);
        labels("8 to 16", z, 0, 1, 3, 5, 7, 9, 11, 13, 15);
        due("[12, 16) has 3, 24 is not above 24", z.put(0, 8, false), 9);
        labels("3 to 12 .. 15", z, 0, 1, 3, 5, 7, 9, 11, 12, 14, 15);
        LabelHall y = line(SPREAD, 9, 256);
        due("half of 2^9", y.about(0, 2), 256);
    }

    private static void blockedEmptyRow() {
        says("BLOCKED: a new BLOCK, if the ROW is empty: .. the new THING's INNER label being 128");
        for (int kind = BLOCKED; kind <= NESTED; kind++) {
            LabelHall x = line(kind, 8, 1);
            due("label", x.label(0, false), 127);
            due("inner", x.inner(0, false), 128);
            due("blocks", x.about(0, 3), 1);
            due("drop", x.drop(0), 1);
            due("A BLOCK without THINGS is no more", x.about(0, 3), 0);
            due("empty again", x.put(0, NONE, false), 1);
            due("label", x.label(1, false), 127);
            due("inner", x.inner(1, false), 128);
            due("alone, it moves", x.move(1, NONE, false), 1);
            due("label", x.label(1, false), 127);
            due("inner", x.inner(1, false), 128);
            due("nothing was dealt", x.count(2) + x.about(0, 4), 0);
        }
    }

    private static void blockOfTheOneAhead() {
        says("BLOCKED: The new one comes to the BLOCK of the one ahead of it (behind it, if none ahead)");
        LabelHall x = line(BLOCKED, 8, 9);
        labels("two blocks", x, 0, 127, 127, 127, 127, 127, 191, 191, 191, 191);
        due("behind the last of the first block", x.put(0, 4, false), 9);
        due("label", x.label(9, false), 127);
        due("between 230 and 256", x.inner(9, false), 243);
        due("behind the first of the second block", x.put(0, 5, false), 10);
        due("label", x.label(10, false), 191);
        due("between 32 and 96", x.inner(10, false), 64);
        due("at the beginning", x.put(0, NONE, false), 11);
        due("label", x.label(11, false), 127);
        due("between -1 and 25", x.inner(11, false), 12);
        due("at the end", x.put(0, 8, false), 12);
        due("label", x.label(12, false), 191);
        due("between 224 and 256", x.inner(12, false), 240);
    }

    private static void innerBounds() {
        says("BLOCKED: In the BLOCK: A PLACE of INNER ones (0 .. 255)");
        inners("to the end", line(BLOCKED, 4, 8), 0, 128, 192, 224, 240, 248, 252, 254, 255);
        inners("to the beginning", backwards(BLOCKED, 4, 8), 0, 0, 1, 3, 7, 15, 31, 63, 128);
        LabelHall x = line(BLOCKED, 4, 1);
        for (int i = 1; i < 8; i++) {
            due("behind 0", x.put(0, 0, false), i);
        }
        inners("the middle: 129 and 130 are 2 from 128 and 132", x, 0, 128, 129, 130, 132, 136, 144, 160, 192);
        due("nothing was dealt", x.about(0, 4), 0);
    }

    private static void innerDealt() {
        says("BLOCKED: .. else all of the BLOCK are DEALT, with it, 0 .. 255 (j is 8)");
        LabelHall x = line(BLOCKED, 4, 8);
        for (int i = 0; i < 4; i++) {
            due("drop", x.drop(i), 1);
        }
        due("behind 255", x.put(0, 7, false), 8);
        inners("5 to 256", x, 0, 25, 76, 128, 179, 230);
        due("4 had one", x.count(2), 4);
        due("5 at once", x.about(0, 4), 5);
        due("one block", x.about(0, 3), 1);
        LabelHall y = backwards(BLOCKED, 4, 8);
        due("two go", y.drop(0) + y.drop(1), 2);
        due("ahead of 0", y.put(0, NONE, false), 8);
        inners("7 to 256", y, 0, 18, 54, 91, 128, 164, 201, 237);
        due("6 had one", y.count(2), 6);
        LabelHall z = line(BLOCKED, 4, 1);
        for (int i = 1; i < 8; i++) {
            due("behind 0", z.put(0, 0, false), i);
        }
        due("one goes", z.drop(1), 1);
        due("between 128 and 129", z.put(0, 0, false), 8);
        inners("8 to 256", z, 0, 16, 48, 80, 112, 144, 176, 208, 240);
        due("still one block", z.about(0, 3), 1);
        due("only this block's", z.label(0, false), 7);
        LabelHall second = line(BLOCKED, 8, 13);
        inners("a block of 5 and one of 8", second, 0, 25, 76, 128, 179, 230, 32, 96, 160, 224, 240, 248, 252, 254);
        due("3 of it go", second.drop(5) + second.drop(6) + second.drop(7), 3);
        due("a place", second.put(0, 12, false), 13);
        due("behind 255", second.put(0, 13, false), 14);
        inners("7 to 256", second, 0, 25, 76, 128, 179, 230, 18, 54, 91, 128, 164, 201, 237);
        due("17 as it was parted, and 6", second.count(2), 23);
    }

    private static void blocksOfOneToEight() {
        says("BLOCKED: THINGS stand in BLOCKS of 1 to 8; If the BLOCK has 9 then, its last 4 come to a new BLOCK");
        LabelHall x = line(BLOCKED, 8, 8);
        due("8 are one block", x.about(0, 3), 1);
        due("the ninth", x.put(0, 7, false), 8);
        due("two blocks", x.about(0, 3), 2);
        labels("5 and 4", x, 0, 127, 127, 127, 127, 127, 191, 191, 191, 191);
        inners("both are dealt", x, 0, 25, 76, 128, 179, 230, 32, 96, 160, 224);
        due("8 had one, then 9", x.count(2), 17);
        due("9 at once", x.about(0, 4), 9);
        due("4 go", x.drop(5) + x.drop(6) + x.drop(7) + x.drop(0), 4);
        due("a block of 1", x.about(0, 3), 2);
        due("it is 8", x.label(8, false), 191);
        due("it goes", x.drop(8), 1);
        due("no more", x.about(0, 3), 1);
        due("the other one stays", x.label(4, false), 127);
    }

    private static void partedWithAPlace() {
        says("RENAMED: (As a BLOCK of 9 is parted the new THING has an INNER one already.)");
        LabelHall x = line(BLOCKED, 8, 2);
        for (int i = 2; i < 9; i++) {
            due("by turns at the beginning and behind 1", x.put(0, i % 2 == 0 ? NONE : 1, false), i);
        }
        order("9", x, 0, 8, 6, 4, 2, 0, 1, 7, 5, 3);
        inners("5 and 4", x, 0, 25, 76, 128, 179, 230, 32, 96, 160, 224);
        due("no dealing ahead of the parting: 9", x.count(2), 9);
        due("5 at once", x.about(0, 4), 5);
        due("blocks", x.about(0, 3), 2);
    }

    private static void newBlockRightBehind() {
        says("BLOCKED: a new BLOCK, which comes (as SPREAD new ones do) right behind it");
        LabelHall x = line(BLOCKED, 4, 9);
        labels("7 and 11", x, 0, 7, 7, 7, 7, 7, 11, 11, 11, 11);
        int renamed = x.count(2);
        for (int i = 9; i < 13; i++) {
            due("behind 0", x.put(0, 0, false), i);
        }
        order("13", x, 0, 0, 12, 11, 10, 9, 1, 2, 3, 4, 5, 6, 7, 8);
        labels("between 7 and 11", x, 0, 7, 7, 7, 7, 7, 9, 9, 9, 9, 11, 11, 11, 11);
        due("no block had a new label: 9", x.count(2), renamed + 9);
        for (int i = 13; i < 17; i++) {
            due("behind 0", x.put(0, 0, false), i);
        }
        due("between 7 and 9", x.label(9, false), 8);
        renamed = x.count(2);
        for (int i = 17; i < 20; i++) {
            due("behind 0", x.put(0, 0, false), i);
        }
        due("inner ones had a place", x.count(2), renamed);
        due("blocks", x.about(0, 3), 4);
        // [6, 8) would have 2, 16 > 14; [4, 8) has 2, 16 is not above 24: blocks 5 and 7.
        due("no place between 7 and 8", x.put(0, 0, false), 20);
        due("blocks", x.about(0, 3), 5);
        due("the first block's label", x.label(0, false), 5);
        due("the new block's label", x.label(14, false), 7);
        due("the next one stays", x.label(9, false), 8);
        due("1 block and 9 inner ones", x.count(2), renamed + 10);
    }

    private static void blocksBehindCount() {
        says("BLOCKED: BLOCKS have LABELS as SPREAD THINGS have: c is how many BLOCKS have labels in the span, and 1");
        LabelHall x = line(BLOCKED, 4, 9);
        for (int i = 9; i < 25; i++) {
            due("behind 0", x.put(0, 0, false), i);
        }
        // Each fourth one parts the first block: 9, 8, then 5 and 7 (dealt to 4 .. 7), then 6.
        labels("the first block", x, 0, 5, 5, 5, 5, 5, 6, 6, 6, 6, 7, 7, 7, 7, 8, 8, 8, 8, 9, 9, 9, 9, 11);
        int renamed = x.count(2);
        for (int i = 25; i < 29; i++) {
            due("behind 0", x.put(0, 0, false), i);
        }
        // [4, 6) would have 2, 16 > 14; [4, 8) 4, 32 > 24; [0, 8) has 4, 32 is not above 40.
        labels("4 to 0 .. 7", x, 0, 1, 1, 1, 1, 1, 3, 3, 3, 3, 5, 5, 5, 5, 7, 7, 7, 7, 8, 8, 8, 8, 9, 9, 9, 9, 11);
        due("3 blocks and 9 inner ones", x.count(2), renamed + 12);
        due("blocks", x.about(0, 3), 7);
    }

    private static void blockedFull() {
        says("BLOCKED: If that new BLOCK would be FULL, all is FULL.");
        LabelHall x = line(BLOCKED, 4, 43);
        due("8 blocks, the last of 8", x.about(0, 3), 8);
        due("the greatest label", x.label(42, false), 15);
        due("at the end", x.put(0, 42, false), FULL);
        due("in the last block", x.put(0, 35, false), FULL);
        due("in another block there is room", x.put(0, 0, false), 43);
        due("for three", x.put(0, 0, false), 44);
        due("for three", x.put(0, 0, false), 45);
        // Blocks are at 1, 3, 5, 8, ..: behind the first there is a place.
        due("and a place for a block", x.put(0, 0, false), 46);
        due("nine blocks", x.about(0, 3), 9);
        due("at 2", x.label(4, false), 2);
        due("one goes from the last", x.drop(42), 1);
        due("there is room for one", x.put(0, 41, false), 47);
        due("and no more", x.put(0, 47, false), FULL);
    }

    private static void blockWithoutThings() {
        says("BLOCKED: A BLOCK without THINGS is no more.");
        LabelHall x = line(BLOCKED, 4, 43);
        for (int i = 0; i < 4; i++) {
            due("drop", x.drop(i), 1);
        }
        due("8 blocks, the first of 1", x.about(0, 3), 8);
        due("at the end", x.put(0, 42, false), FULL);
        // Blocks 3, 5, 8, 10, 12, 14, 15: [8, 16) would have 6, 48 > 40; [0, 16) has 8, 64 is not above 64.
        due("as it moves its block is no more", x.move(4, 42, false), 1);
        due("8 blocks", x.about(0, 3), 8);
        due("the first", x.label(5, false), 1);
        due("the last", x.label(4, false), 15);
        due("8 at once, but 9 once", x.about(0, 4), 9);
        LabelHall y = line(BLOCKED, 8, 9);
        for (int i = 0; i < 5; i++) {
            due("drop", y.drop(i), 1);
        }
        due("the first block is no more", y.about(0, 3), 1);
        due("at the beginning", y.put(0, NONE, false), 9);
        due("to the block behind it", y.label(9, false), 191);
        due("between -1 and 32", y.inner(9, false), 15);
    }

    private static void blockOfOne() {
        says("BLOCKED: BLOCKS of 1 to 8; (behind it, if there is none ahead)");
        LabelHall x = line(BLOCKED, 8, 9);
        for (int i = 1; i < 5; i++) {
            due("drop", x.drop(i), 1);
        }
        due("0 alone in its block", x.about(0, 3), 2);
        due("at the beginning", x.put(0, NONE, false), 9);
        due("to the block of 0", x.label(9, false), 127);
        due("between -1 and 25", x.inner(9, false), 12);
        due("they go", x.drop(0) + x.drop(9) + x.drop(6) + x.drop(7) + x.drop(8), 5);
        due("5 alone in the row", x.about(0, 3), 1);
        due("behind it", x.put(0, 5, false), 10);
        due("to its block", x.label(10, false), 191);
        due("between 32 and 256", x.inner(10, false), 144);
    }

    /** Puts, moves and drops in row 1 alone, at its ends and in the midst, by the places of things. */
    private static void workInRow1(LabelHall x, boolean nested) {
        x.mark(0, 1, NONE, 0);
        x.mark(1, 1, NONE, 1);
        for (int i = 0; i < 14; i++) {
            x.put(1, NONE, false);
            x.put(1, x.at(1, x.about(1, 2) - 1), nested);
            x.put(1, x.at(1, 2), false);
        }
        x.mark(2, 1, x.at(1, 0), 0);
        x.mark(3, 1, x.at(1, 0), 1);
        x.drop(x.at(1, 0));
        x.mark(4, 1, x.at(1, x.about(1, 2) - 1), 1);
        x.drop(x.at(1, x.about(1, 2) - 1));
        x.move(x.at(1, 1), NONE, false);
        x.move(x.at(1, 0), x.at(1, x.about(1, 2) - 1), nested);
    }

    private static long shown(LabelHall x, int mark) {
        int behind = x.marked(mark);
        return behind < 1000 ? x.index(behind) : 1000 + x.index(behind - 1000);
    }

    /** Row 1 with things in the rows 0 and 2, as many and as labelled as its own first ones, and without. */
    private static void besideOthers(int kind, int width, int others) {
        LabelHall alone = new LabelHall();
        LabelHall among = new LabelHall();
        for (int r = 0; r < 3; r++) {
            alone.row(r, kind, width);
            among.row(r, kind, width);
        }
        for (int i = 0; i < others; i++) {
            among.put(i % 2 * 2, NONE, false);
        }
        int renamed = among.count(2);
        workInRow1(alone, kind == NESTED);
        workInRow1(among, kind == NESTED);
        String what = "kind " + kind + ", width " + width + ", beside " + others;
        due(what + ": renamed", among.count(2) - renamed, alone.count(2));
        for (int about = 0; about < 5; about++) {
            due(what + ": about " + about, among.about(1, about), alone.about(1, about));
        }
        for (int m = 0; m < 5; m++) {
            due(what + ": mark " + m, shown(among, m), shown(alone, m));
        }
        int things = alone.about(1, 2);
        for (int i = 0; i < things; i++) {
            int a = alone.at(1, i);
            int b = among.at(1, i);
            due(what + ": label of " + i, among.label(b, false), alone.label(a, false));
            due(what + ": inner of " + i, among.inner(b, false), alone.inner(a, false));
            due(what + ": END of " + i, among.inner(b, true), alone.inner(a, true));
        }
    }

    private static void rowsSideBySide() {
        says("A NEW THING comes between two that stand side by side (or at an end): in its own ROW alone");
        for (int kind = TIGHT; kind <= NESTED; kind++) {
            for (int width = 4; width <= 9; width++) {
                besideOthers(kind, width, 2);
                besideOthers(kind, width, 60);
            }
        }
    }

    private static void nestedStands() {
        says("NESTED: (THINGS and ENDS together are what stands in the ROW, and in its BLOCKS.)");
        LabelHall x = siblings(8, 4);
        due("4 things are 8 stands, one block", x.about(0, 3), 1);
        due("the first", x.inner(0, false), 128);
        due("its END", x.inner(0, true), 192);
        due("the last END", x.inner(3, true), 255);
        due("nothing was dealt", x.count(2), 0);
        due("the fifth", x.put(0, 3, true), 4);
        due("two blocks", x.about(0, 3), 2);
        due("the first block ends with thing 2", x.label(2, false), 127);
        due("its END begins the second", x.label(2, true), 191);
        due("its END", x.inner(2, true), 32);
        due("8 and 9 were renamed", x.count(2), 17);
        due("things", x.about(0, 2), 5);
        due("a thing parted from its END goes", x.drop(2), 1);
        due("blocks", x.about(0, 3), 2);
        order("the rest", x, 0, 0, 1, 3, 4);
    }

    private static void nestedEnds() {
        says("NESTED: each THING has an END, which stands in the same ROW behind it");
        LabelHall x = line(NESTED, 8, 1);
        due("its block", x.label(0, true), 127);
        due("right behind it", x.inner(0, true), 192);
        due("within it", x.put(0, 0, false), 1);
        due("between 128 and 192", x.inner(1, false), 160);
        due("between 160 and 192", x.inner(1, true), 176);
        says("THINGS are WITHIN others wholly or not at all");
        due("1 goes behind the END of 0", x.move(1, 0, true), 1);
        due("0 has none within it", x.holds(0, 1), 0);
        due("nor has 1", x.holds(1, 0), 0);
        due("0 goes into 1", x.move(0, 1, false), 1);
        due("wholly", x.holds(1, 0), 1);
    }

    private static void nestedFull() {
        says("NESTED: as BLOCKED (FULL for a THING, and for its END)");
        LabelHall x = siblings(4, 21);
        due("8 blocks", x.about(0, 3), 8);
        due("the last has 7: for its END", x.put(0, 20, true), FULL);
        due("no number was given", x.count(1), 21);
        due("no END stays behind", x.near(20, 1), NONE);
        due("elsewhere there is room", x.put(0, NONE, false), 21);
        LabelHall y = siblings(4, 21);
        due("one END goes from the last block", y.drop(17), 1);
        due("8 then", y.put(0, 20, true), 21);
        due("the greatest inner label", y.inner(21, true), 255);
        due("for itself", y.put(0, 21, true), FULL);
        due("within the last likewise", y.put(0, 21, false), FULL);
        due("blocks", y.about(0, 3), 8);
    }

    private static void renamedAlsoTheSame() {
        says("RENAMED counts all labels .. given to what had one, by dealing, also if it is the same as before");
        LabelHall x = line(TIGHT, 4, 16);
        due("one goes from 0", x.drop(0), 1);
        int renamed = x.count(2);
        due("no place behind 15", x.put(0, 15, false), 16);
        due("dealt are 15 that had one", x.count(2), renamed + 15);
        due("the last goes", x.drop(16), 1);
        due("a place is no dealing", x.put(0, 15, false), 17);
        due("as before", x.count(2), renamed + 15);
        LabelHall y = line(SPREAD, 4, 1);
        for (int i = 1; i < 4; i++) {
            due("behind 0", y.put(0, 0, false), i);
        }
        due("2 to 4 .. 7", y.put(0, 0, false), 4);
        due("0 had one", y.count(2), 1);
        due("0 moves to the end", y.move(0, 1, false), 1);
        due("what moves comes as a new one", y.count(2), 1);
        LabelHall z = line(BLOCKED, 4, 8);
        due("0 goes", z.drop(0), 1);
        due("no place behind 255", z.put(0, 7, false), 8);
        inners("8 to 256", z, 0, 16, 48, 80, 112, 144, 176, 208, 240);
        due("6 go", z.drop(1) + z.drop(2) + z.drop(3) + z.drop(4) + z.drop(5) + z.drop(6), 6);
        due("7 had one", z.count(2), 7);
    }

    /** Dealt again to the same labels: 0 .. 15 with the new one in the place of the one that went. */
    private static void renamedToTheSameLabel() {
        says("RENAMED .. also if it is the same as before");
        LabelHall x = line(TIGHT, 4, 16);
        due("the last one goes", x.drop(15), 1);
        int renamed = x.count(2);
        due("no place between 13 and 14", x.put(0, 13, false), 16);
        labels("dealt", x, 0, 0, 1, 2, 3, 4, 5, 6, 7, 8, 9, 10, 11, 12, 13, 14, 15);
        due("14 kept theirs, 1 has another", x.count(2), renamed + 15);
    }

    public static void main(String[] args) {
        begin("TermsEdgeTest");
        theLastOf512Calls();
        rowsAtFirst();
        widths();
        leastAndGreatestLabel();
        labelsRise();
        kinds();
        threeHundredInAll();
        numbersAreNotGivenAgain();
        inOneRowOrGone();
        placeAtTheBeginning();
        placeAtTheEnd();
        placeInTheMiddle();
        dealtCuts();
        tightDealsAll();
        tightFull();
        spreadTakesTheFirstSpan();
        spreadTakesAllAtTheLast();
        spreadSpanOfTheOneAhead();
        spreadFull();
        blockedEmptyRow();
        blockOfTheOneAhead();
        innerBounds();
        innerDealt();
        blocksOfOneToEight();
        partedWithAPlace();
        newBlockRightBehind();
        blocksBehindCount();
        blockedFull();
        blockWithoutThings();
        blockOfOne();
        rowsSideBySide();
        nestedStands();
        nestedEnds();
        nestedFull();
        renamedAlsoTheSame();
        renamedToTheSameLabel();
        end();
    }
}
