import java.util.Arrays;

/**
 * A hall of rows in which things stand, each with a label that is a number, so that of two of
 * them it is told at once which is ahead.
 *
 * <p>What stands in a row is called a stand here: a thing, or the END of a thing in a nested row.
 * Thing t is stand 2t, its END stand 2t + 1.
 */
public final class LabelHall {
    public static final int NONE = -1, BAD = -3, NO = -4, FULL = -5;

    private static final int ROWS = 8;
    private static final int THINGS = 300;
    private static final int STANDS = 2 * THINGS;
    private static final int MARKS = 20;
    private static final int KEPT = 8;

    private static final int TIGHT = 0;
    private static final int BLOCKED = 2;
    private static final int NESTED = 3;

    private static final int LEAST_WIDTH = 4;
    private static final int GREATEST_WIDTH = 40;

    private static final int BLOCK_LIMIT = 8;
    private static final int LEFT_IN_PARTED_BLOCK = 5;
    private static final int INNER_BITS = 8;
    private static final int INNER_LABELS = 1 << INNER_BITS;
    private static final int FIRST_INNER = 128;

    private static final int END_IN_ANSWER = 1000;

    /** Stands for the label of what has none yet; it is unlike every label, so it parts runs. */
    private static final long FRESH = -1L;

    /** One slot more than is kept, so that a change that meets FULL pushes out none of them. */
    private final State[] kept = new State[KEPT + 1];
    private final int[] passage = new int[STANDS];
    private State now = new State();
    private int newestSlot = 0;
    private int keptCount = 0;
    private int thingCount = 0;

    public LabelHall() {
        for (int i = 0; i < kept.length; i++) {
            kept[i] = new State();
        }
    }

    public int row(int row, int kind, int width) {
        if (row < 0 || row >= ROWS || !isKind(kind) || width < LEAST_WIDTH || width > GREATEST_WIDTH) {
            return BAD;
        }
        if (now.isRow(row)) {
            return NO;
        }
        beginChange();
        now.kinds[row] = kind;
        now.widths[row] = width;
        endChange(true);
        return 0;
    }

    public int put(int row, int behind, boolean end) {
        if (!isPlace(row, behind, end)) {
            return BAD;
        }
        return admit(row, standOf(behind, end));
    }

    public int drop(int thing) {
        if (!isStanding(thing)) {
            return BAD;
        }
        int row = now.order.rowOfThing(thing);
        beginChange();
        int gone = now.takeOut(row, now.firstPlace(thing), now.lastPlace(thing) + 1, passage);
        endChange(true);
        return thingsInPassage(gone);
    }

    public int move(int thing, int behind, boolean end) {
        if (!isStanding(thing)) {
            return BAD;
        }
        int row = now.order.rowOfThing(thing);
        if (!isPlace(row, behind, end)) {
            return BAD;
        }
        if (behind == thing || behind != NONE && now.encloses(thing, behind)) {
            return NO;
        }
        int from = now.firstPlace(thing);
        int until = now.lastPlace(thing) + 1;
        return carry(row, from, until, row, standOf(behind, end));
    }

    public int join(int row, int to) {
        if (!now.isRow(row) || !now.isRow(to) || row == to) {
            return BAD;
        }
        if (now.kinds[row] != now.kinds[to]) {
            return NO;
        }
        return carry(row, now.order.first(row), now.order.end(row), to, now.order.lastStand(to));
    }

    public int split(int thing, int to) {
        if (!isStanding(thing) || !now.isRow(to)) {
            return BAD;
        }
        int row = now.order.rowOfThing(thing);
        if (row == to) {
            return BAD;
        }
        if (now.kinds[row] != now.kinds[to] || now.innermost(thing, thing) != NONE) {
            return NO;
        }
        return carry(row, now.lastPlace(thing) + 1, now.order.end(row), to, now.order.lastStand(to));
    }

    // ---- what is asked

    public int less(int thing, int other) {
        int fault = faultOfPair(thing, other);
        if (fault != 0) {
            return fault;
        }
        if (thing == other) {
            return 0;
        }
        return now.isAhead(2 * thing, 2 * other) ? 1 : 2;
    }

    public long label(int thing, boolean end) {
        return hasStand(thing, end) ? now.labels[standOf(thing, end)] : BAD;
    }

    public int inner(int thing, boolean end) {
        if (!hasStand(thing, end)) {
            return BAD;
        }
        return now.hasBlocks(now.order.rowOfThing(thing)) ? now.inners[standOf(thing, end)] : NONE;
    }

    public int near(int thing, int what) {
        if (!isStanding(thing)) {
            return BAD;
        }
        switch (what) {
            case 0:
                return now.neighbour(thing, -1);
            case 1:
                return now.neighbour(thing, 1);
            case 2:
                return now.innermost(thing, thing);
            case 3:
                return now.firstWithin(thing);
            default:
                return BAD;
        }
    }

    public int index(int thing) {
        return isStanding(thing) ? now.thingsAhead(thing) : BAD;
    }

    public int at(int row, int i) {
        if (!now.isRow(row) || i < 0) {
            return BAD;
        }
        return now.thingNumber(row, i);
    }

    public int between(int thing, int other) {
        int fault = faultOfPair(thing, other);
        if (fault != 0) {
            return fault;
        }
        if (thing == other) {
            return 0;
        }
        return Math.abs(now.thingsAhead(thing) - now.thingsAhead(other)) - 1;
    }

    public int holds(int thing, int other) {
        if (!isStanding(thing) || !isStanding(other)) {
            return BAD;
        }
        return now.encloses(thing, other) ? 1 : 0;
    }

    public int meet(int thing, int other) {
        int fault = faultOfPair(thing, other);
        if (fault != 0) {
            return fault;
        }
        if (thing == other || now.encloses(thing, other)) {
            return thing;
        }
        return now.encloses(other, thing) ? other : now.innermost(thing, other);
    }

    public int depth(int thing) {
        return isStanding(thing) ? now.enclosingCount(thing) : BAD;
    }

    public int rowOf(int thing) {
        return thing >= 0 && thing < thingCount ? now.order.rowOfThing(thing) : BAD;
    }

    // ---- marks

    public int mark(int mark, int row, int behind, int lean) {
        if (mark < 0 || mark >= MARKS || lean < 0 || lean > 1 || !isPlace(row, behind, false)) {
            return BAD;
        }
        beginChange();
        now.marks.set(mark, row, standOf(behind, false), lean);
        endChange(true);
        return 0;
    }

    public int marked(int mark) {
        if (!now.marks.isSet(mark)) {
            return BAD;
        }
        int stand = now.marks.behinds[mark];
        if (stand == NONE) {
            return NONE;
        }
        return isEnd(stand) ? END_IN_ANSWER + thingOf(stand) : thingOf(stand);
    }

    public int putAt(int mark) {
        if (!now.marks.isSet(mark)) {
            return BAD;
        }
        return admit(now.marks.rows[mark], now.marks.behinds[mark]);
    }

    public int undo() {
        if (keptCount <= 0) {
            return NO;
        }
        exchangeWith(newestSlot);
        newestSlot = newestSlot > 0 ? newestSlot - 1 : KEPT;
        keptCount--;
        return keptCount;
    }

    public int about(int row, int what) {
        if (!now.isRow(row)) {
            return BAD;
        }
        switch (what) {
            case 0:
                return now.kinds[row];
            case 1:
                return now.widths[row];
            case 2:
                return now.thingsIn(row);
            case 3:
                return now.blocksIn(row);
            case 4:
                return now.greatest[row];
            default:
                return BAD;
        }
    }

    public int isOf(int row, int kind) {
        if (!now.isRow(row) || !isKind(kind)) {
            return BAD;
        }
        return now.kinds[row] >= kind ? 1 : 0;
    }

    public int count(int what) {
        switch (what) {
            case 0:
                return now.thingsInAll();
            case 1:
                return thingCount;
            case 2:
                return now.renamed;
            case 3:
                return keptCount;
            case 4:
                return now.marks.setCount();
            case 5:
                return now.rowCount();
            default:
                return BAD;
        }
    }

    private static boolean isKind(int kind) {
        return kind >= TIGHT && kind <= NESTED;
    }

    private static boolean isEnd(int stand) {
        return (stand & 1) == 1;
    }

    private static int thingOf(int stand) {
        return stand >> 1;
    }

    /** The stand of a thing or of its END; NONE, the beginning of a row, stays NONE. */
    private static int standOf(int thing, boolean end) {
        if (thing == NONE) {
            return NONE;
        }
        return end ? 2 * thing + 1 : 2 * thing;
    }

    /** The i-th of c labels that are dealt to the 2^bits labels from start on. */
    private static long dealt(long start, int bits, int c, int i) {
        if (c <= 0) {
            return start;
        }
        return start + (2L * i + 1) * (1L << bits) / (2L * c);
    }

    private boolean isStanding(int thing) {
        return thing >= 0 && thing < thingCount && now.order.rowOfThing(thing) != NONE;
    }

    /** Why two things can't be set side by side, BAD or NO; 0 if they can. */
    private int faultOfPair(int thing, int other) {
        if (!isStanding(thing) || !isStanding(other)) {
            return BAD;
        }
        return now.inOneRow(thing, other) ? 0 : NO;
    }

    private boolean hasStand(int thing, boolean end) {
        return isStanding(thing) && (!end || now.isNested(thing));
    }

    private boolean isPlace(int row, int behind, boolean end) {
        if (!now.isRow(row)) {
            return false;
        }
        if (behind == NONE) {
            return !end;
        }
        return hasStand(behind, end) && now.order.rowOfThing(behind) == row;
    }

    /** Brings a new thing, in a nested row with its END, right behind a stand. */
    private int admit(int row, int behind) {
        if (thingCount >= THINGS) {
            return FULL;
        }
        beginChange();
        int place = now.placeBehind(row, behind);
        boolean came = now.bring(row, place, 2 * thingCount);
        if (came && now.kinds[row] == NESTED) {
            came = now.bring(row, place + 1, 2 * thingCount + 1);
        }
        endChange(came);
        if (!came) {
            return FULL;
        }
        thingCount++;
        return thingCount - 1;
    }

    /** Takes what stands at the places from .. until - 1 of a row, and brings it behind a stand of row to. */
    private int carry(int row, int from, int until, int to, int behind) {
        beginChange();
        int taken = now.takeOut(row, from, until, passage);
        int place = now.placeBehind(to, behind);
        boolean came = true;
        for (int i = 0; i < taken && came; i++) {
            came = now.bring(to, place + i, passage[i]);
        }
        endChange(came);
        return came ? thingsInPassage(taken) : FULL;
    }

    private int thingsInPassage(int stands) {
        int things = 0;
        for (int i = 0; i < stands && i < passage.length; i++) {
            if (!isEnd(passage[i])) {
                things++;
            }
        }
        return things;
    }

    private int spareSlot() {
        return newestSlot < KEPT ? newestSlot + 1 : 0;
    }

    private void beginChange() {
        kept[spareSlot()].copyFrom(now);
    }

    private void endChange(boolean done) {
        if (done) {
            newestSlot = spareSlot();
            keptCount = Math.min(KEPT, keptCount + 1);
        } else {
            exchangeWith(spareSlot());
        }
    }

    private void exchangeWith(int slot) {
        State earlier = kept[slot];
        kept[slot] = now;
        now = earlier;
    }

    /**
     * What stands in which row, in order. All rows lie in one line, so that eight rows need no more
     * room than one.
     */
    private static final class Order {
        final int[] line = new int[STANDS];
        /** The place in the line where each row begins; the last entry is where the last row ends. */
        final int[] begins = new int[ROWS + 1];
        final int[] rows = new int[THINGS];

        Order() {
            Arrays.fill(rows, NONE);
        }

        void copyFrom(Order other) {
            System.arraycopy(other.line, 0, line, 0, line.length);
            System.arraycopy(other.begins, 0, begins, 0, begins.length);
            System.arraycopy(other.rows, 0, rows, 0, rows.length);
        }

        int first(int row) {
            return row >= 0 && row < ROWS ? begins[row] : 0;
        }

        int end(int row) {
            return row >= 0 && row < ROWS ? begins[row + 1] : 0;
        }

        int length(int row) {
            return end(row) - first(row);
        }

        int rowOfThing(int thing) {
            return thing >= 0 && thing < THINGS ? rows[thing] : NONE;
        }

        int standAt(int place) {
            return place >= 0 && place < STANDS ? line[place] : NONE;
        }

        int lastStand(int row) {
            return length(row) > 0 ? standAt(end(row) - 1) : NONE;
        }

        int placeOf(int stand) {
            int row = rowOfThing(thingOf(stand));
            if (row == NONE) {
                return NONE;
            }
            for (int p = first(row); p < end(row); p++) {
                if (line[p] == stand) {
                    return p;
                }
            }
            return NONE;
        }

        void insert(int row, int place, int stand) {
            int all = begins[ROWS];
            if (all >= STANDS || place < first(row) || place > end(row)) {
                return;
            }
            System.arraycopy(line, place, line, place + 1, all - place);
            line[place] = stand;
            rows[thingOf(stand)] = row;
            for (int r = row + 1; r <= ROWS; r++) {
                begins[r]++;
            }
        }

        void remove(int row, int from, int until) {
            if (from < first(row) || until < from || until > end(row)) {
                return;
            }
            for (int p = from; p < until; p++) {
                rows[thingOf(line[p])] = NONE;
            }
            System.arraycopy(line, until, line, from, begins[ROWS] - until);
            for (int r = row + 1; r <= ROWS; r++) {
                begins[r] -= until - from;
            }
        }
    }

    /** The marks: each is right behind a stand of its row, or behind NONE at the row's beginning. */
    private static final class Marks {
        final int[] rows = new int[MARKS];
        final int[] behinds = new int[MARKS];
        final int[] leans = new int[MARKS];

        Marks() {
            Arrays.fill(rows, NONE);
        }

        void copyFrom(Marks other) {
            System.arraycopy(other.rows, 0, rows, 0, MARKS);
            System.arraycopy(other.behinds, 0, behinds, 0, MARKS);
            System.arraycopy(other.leans, 0, leans, 0, MARKS);
        }

        boolean isSet(int mark) {
            return mark >= 0 && mark < MARKS && rows[mark] != NONE;
        }

        int setCount() {
            int set = 0;
            for (int m = 0; m < MARKS; m++) {
                if (rows[m] != NONE) {
                    set++;
                }
            }
            return set;
        }

        void set(int mark, int row, int behind, int lean) {
            rows[mark] = row;
            behinds[mark] = behind;
            leans[mark] = lean;
        }

        /** The marks right behind a stand that lean right go on behind the one that came there. */
        void follow(int row, int behind, int newcomer) {
            for (int m = 0; m < MARKS; m++) {
                if (rows[m] == row && behinds[m] == behind && leans[m] == 1) {
                    behinds[m] = newcomer;
                }
            }
        }
    }

    /**
     * All that undo takes back. Blocks are kept by their labels alone: no two blocks of a row have
     * the same one, so a block is a run of stands with one label (and so is a thing of a row
     * without blocks, a run of one). A run is what a label is given to.
     */
    private static final class State {
        final Order order = new Order();
        final Marks marks = new Marks();
        final int[] kinds = new int[ROWS];
        final int[] widths = new int[ROWS];
        final int[] greatest = new int[ROWS];
        final long[] labels = new long[STANDS];
        final int[] inners = new int[STANDS];
        int renamed = 0;

        State() {
            Arrays.fill(kinds, NONE);
        }

        void copyFrom(State other) {
            order.copyFrom(other.order);
            marks.copyFrom(other.marks);
            System.arraycopy(other.kinds, 0, kinds, 0, ROWS);
            System.arraycopy(other.widths, 0, widths, 0, ROWS);
            System.arraycopy(other.greatest, 0, greatest, 0, ROWS);
            System.arraycopy(other.labels, 0, labels, 0, STANDS);
            System.arraycopy(other.inners, 0, inners, 0, STANDS);
            renamed = other.renamed;
        }

        boolean isRow(int row) {
            return row >= 0 && row < ROWS && kinds[row] != NONE;
        }

        boolean hasBlocks(int row) {
            return isRow(row) && kinds[row] >= BLOCKED;
        }

        int rowCount() {
            int rows = 0;
            for (int r = 0; r < ROWS; r++) {
                if (kinds[r] != NONE) {
                    rows++;
                }
            }
            return rows;
        }

        int thingsIn(int row) {
            return kinds[row] == NESTED ? order.length(row) / 2 : order.length(row);
        }

        int thingsInAll() {
            int things = 0;
            for (int r = 0; r < ROWS; r++) {
                things += thingsIn(r);
            }
            return things;
        }

        int blocksIn(int row) {
            if (!hasBlocks(row)) {
                return 0;
            }
            int blocks = 0;
            long last = FRESH;
            for (int p = order.first(row); p < order.end(row); p++) {
                if (labelAt(p) != last) {
                    blocks++;
                }
                last = labelAt(p);
            }
            return blocks;
        }

        int firstPlace(int thing) {
            return order.placeOf(2 * thing);
        }

        int lastPlace(int thing) {
            return order.placeOf(standOf(thing, isNested(thing)));
        }

        int placeBehind(int row, int stand) {
            return stand == NONE ? order.first(row) : order.placeOf(stand) + 1;
        }

        boolean isNested(int thing) {
            int row = order.rowOfThing(thing);
            return row != NONE && kinds[row] == NESTED;
        }

        long labelAt(int place) {
            return place >= 0 && place < STANDS ? labels[order.line[place]] : FRESH;
        }

        void setLabel(int place, long label) {
            if (place >= 0 && place < STANDS) {
                labels[order.line[place]] = label;
            }
        }

        int innerAt(int place) {
            return place >= 0 && place < STANDS ? inners[order.line[place]] : NONE;
        }

        void setInner(int place, int inner) {
            if (place >= 0 && place < STANDS) {
                inners[order.line[place]] = inner;
            }
        }

        boolean inOneRow(int thing, int other) {
            return order.rowOfThing(thing) == order.rowOfThing(other);
        }

        /** Whether one stand is ahead of another one of its row: their labels alone tell it. */
        boolean isAhead(int stand, int other) {
            if (labels[stand] != labels[other]) {
                return labels[stand] < labels[other];
            }
            return inners[stand] < inners[other];
        }

        boolean encloses(int thing, int other) {
            if (!inOneRow(thing, other) || !isNested(thing)) {
                return false;
            }
            return isAhead(2 * thing, 2 * other) && isAhead(2 * other, 2 * thing + 1);
        }

        /** The innermost thing with both within it: the last one ahead of them that encloses them. */
        int innermost(int thing, int other) {
            int row = order.rowOfThing(thing);
            for (int p = firstPlace(thing) - 1; p >= order.first(row); p--) {
                int outer = thingOf(order.standAt(p));
                if (encloses(outer, thing) && encloses(outer, other)) {
                    return outer;
                }
            }
            return NONE;
        }

        int enclosingCount(int thing) {
            int row = order.rowOfThing(thing);
            int enclosing = 0;
            for (int p = order.first(row); p < order.end(row); p++) {
                int stand = order.standAt(p);
                if (!isEnd(stand) && encloses(thingOf(stand), thing)) {
                    enclosing++;
                }
            }
            return enclosing;
        }

        int firstWithin(int thing) {
            int behind = neighbour(thing, 1);
            return behind != NONE && encloses(thing, behind) ? behind : NONE;
        }

        /** The thing so many steps further on in the row without ENDs, or back, if it is below 0. */
        int neighbour(int thing, int steps) {
            return thingNumber(order.rowOfThing(thing), thingsAhead(thing) + steps);
        }

        int thingsAhead(int thing) {
            int row = order.rowOfThing(thing);
            int until = firstPlace(thing);
            int ahead = 0;
            for (int p = order.first(row); p < until; p++) {
                if (!isEnd(order.standAt(p))) {
                    ahead++;
                }
            }
            return ahead;
        }

        int thingNumber(int row, int i) {
            int ahead = 0;
            for (int p = order.first(row); p < order.end(row); p++) {
                int stand = order.standAt(p);
                if (!isEnd(stand) && ahead == i) {
                    return thingOf(stand);
                }
                if (!isEnd(stand)) {
                    ahead++;
                }
            }
            return NONE;
        }

        /** Takes what stands at the places from .. until - 1 out of a row, into an array: how many. */
        int takeOut(int row, int from, int until, int[] into) {
            int taken = until - from;
            if (from < order.first(row) || taken < 0 || until > order.end(row) || taken > into.length) {
                return 0;
            }
            int ahead = from > order.first(row) ? order.standAt(from - 1) : NONE;
            for (int m = 0; m < MARKS; m++) {
                if (marks.rows[m] == row && marks.behinds[m] != NONE) {
                    int place = order.placeOf(marks.behinds[m]);
                    marks.behinds[m] = place >= from && place < until ? ahead : marks.behinds[m];
                }
            }
            System.arraycopy(order.line, from, into, 0, taken);
            order.remove(row, from, until);
            return taken;
        }

        /** Brings a stand to a place of a row, as a new one between two: false if that is FULL. */
        boolean bring(int row, int place, int stand) {
            int ahead = place > order.first(row) ? order.standAt(place - 1) : NONE;
            order.insert(row, place, stand);
            marks.follow(row, ahead, stand);
            labels[stand] = FRESH;
            inners[stand] = FIRST_INNER;
            if (!hasBlocks(row) || order.length(row) == 1) {
                return labelRun(row, place, place + 1);
            }
            long block = place > order.first(row) ? labelAt(place - 1) : labelAt(place + 1);
            labels[stand] = block;
            int from = place;
            while (from > order.first(row) && labelAt(from - 1) == block) {
                from--;
            }
            int until = place + 1;
            while (until < order.end(row) && labelAt(until) == block) {
                until++;
            }
            labelWithin(row, place, from, until);
            return until - from <= BLOCK_LIMIT || partBlock(row, from, until);
        }

        /** Gives the newcomer at a place its inner label in the block of the places from .. until - 1. */
        void labelWithin(int row, int place, int from, int until) {
            int low = place > from ? innerAt(place - 1) : -1;
            int high = place + 1 < until ? innerAt(place + 1) : INNER_LABELS;
            if (high - low >= 2) {
                setInner(place, (low + high) / 2);
            } else {
                dealInners(row, from, until);
                renamed += until - from - 1;
            }
        }

        boolean partBlock(int row, int from, int until) {
            int parting = from + LEFT_IN_PARTED_BLOCK;
            for (int p = parting; p < until; p++) {
                setLabel(p, FRESH);
            }
            if (!labelRun(row, parting, until)) {
                return false;
            }
            dealInners(row, from, parting);
            dealInners(row, parting, until);
            renamed += until - from;
            return true;
        }

        void dealInners(int row, int from, int until) {
            for (int p = from; p < until; p++) {
                setInner(p, (int) dealt(0, INNER_BITS, until - from, p - from));
            }
            greatest[row] = Math.max(greatest[row], until - from);
        }

        /** Gives a label to the fresh run at the places from .. until - 1: false if that is FULL. */
        boolean labelRun(int row, int from, int until) {
            long all = 1L << widths[row];
            long low = from > order.first(row) ? labelAt(from - 1) : -1L;
            long high = until < order.end(row) ? labelAt(until) : all;
            if (high - low >= 2) {
                for (int p = from; p < until; p++) {
                    setLabel(p, (low + high) / 2);
                }
                return true;
            }
            if (kinds[row] != TIGHT) {
                return spreadRuns(row, from, until);
            }
            if (order.length(row) > all) {
                return false;
            }
            dealLabels(row, order.first(row), order.end(row), 0, widths[row], order.length(row));
            return true;
        }

        /** Deals labels anew in the least span round the fresh run that is sparse enough. */
        boolean spreadRuns(int row, int from, int until) {
            int width = widths[row];
            long centre = from > order.first(row) ? labelAt(from - 1) : labelAt(until);
            int left = from;
            int right = until;
            int runs = 1;
            for (int j = 1; j <= width; j++) {
                long start = centre >> j << j;
                long stop = start + (1L << j);
                while (left > order.first(row) && labelAt(left - 1) >= start) {
                    left--;
                    runs += labelAt(left) != labelAt(left + 1) ? 1 : 0;
                }
                while (right < order.end(row) && labelAt(right) < stop) {
                    runs += labelAt(right) != labelAt(right - 1) ? 1 : 0;
                    right++;
                }
                if (runs * 2L * width <= (1L << j) * (2 * width - j)) {
                    dealLabels(row, left, right, start, j, runs);
                    return true;
                }
            }
            return false;
        }

        /** Deals the labels from start on, 2^bits of them, to the runs at the places from .. until - 1. */
        void dealLabels(int row, int from, int until, long start, int bits, int runs) {
            int run = -1;
            long last = FRESH - 1;
            for (int p = from; p < until; p++) {
                if (labelAt(p) != last) {
                    last = labelAt(p);
                    run++;
                    renamed += last != FRESH ? 1 : 0;
                }
                setLabel(p, dealt(start, bits, runs, run));
            }
            greatest[row] = Math.max(greatest[row], runs);
        }
    }
}
