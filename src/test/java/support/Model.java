import java.util.ArrayDeque;
import java.util.ArrayList;
import java.util.Collections;
import java.util.HashMap;
import java.util.List;
import java.util.Map;

/**
 * The document's words once more, held in another way than the class holds them: rows are lists of
 * block objects, marks know the objects that they are behind, and undo takes whole copies back.
 */
public final class Model {
    static final int NONE = -1, BAD = -3, NO = -4, FULL = -5;

    static final class Stand {
        int thing;
        boolean end;
        int inner;
    }

    static final class Block {
        long label;
        List<Stand> stands = new ArrayList<>();
    }

    static final class Row {
        int kind;
        int width;
        int greatest;
        List<Block> blocks = new ArrayList<>();

        List<Stand> all() {
            List<Stand> all = new ArrayList<>();
            for (Block b : blocks) {
                all.addAll(b.stands);
            }
            return all;
        }

        Block blockOf(Stand s) {
            for (Block b : blocks) {
                if (b.stands.contains(s)) {
                    return b;
                }
            }
            throw new IllegalStateException("stand in no block");
        }
    }

    static final class Mark {
        int row;
        Stand behind;
        int lean;
    }

    static final class World {
        Row[] rows = new Row[8];
        Mark[] marks = new Mark[20];
        int renamed;

        World copy() {
            World w = new World();
            Map<Stand, Stand> twin = new HashMap<>();
            for (int r = 0; r < 8; r++) {
                w.rows[r] = rows[r] == null ? null : copy(rows[r], twin);
            }
            for (int m = 0; m < 20; m++) {
                if (marks[m] != null) {
                    Mark k = new Mark();
                    k.row = marks[m].row;
                    k.lean = marks[m].lean;
                    k.behind = marks[m].behind == null ? null : twin.get(marks[m].behind);
                    w.marks[m] = k;
                }
            }
            w.renamed = renamed;
            return w;
        }

        private static Row copy(Row row, Map<Stand, Stand> twin) {
            Row r = new Row();
            r.kind = row.kind;
            r.width = row.width;
            r.greatest = row.greatest;
            for (Block block : row.blocks) {
                Block b = new Block();
                b.label = block.label;
                for (Stand stand : block.stands) {
                    Stand s = new Stand();
                    s.thing = stand.thing;
                    s.end = stand.end;
                    s.inner = stand.inner;
                    b.stands.add(s);
                    twin.put(stand, s);
                }
                r.blocks.add(b);
            }
            return r;
        }
    }

    World world = new World();
    final ArrayDeque<World> kept = new ArrayDeque<>();
    int things = 0;

    // ---- how a new one comes

    private static long dealt(long x, int j, int c, int i) {
        return x + (2L * i + 1) * (1L << j) / (2L * c);
    }

    private boolean labelNewBlock(Row row, Block fresh) {
        int at = row.blocks.indexOf(fresh);
        long a = at == 0 ? -1 : row.blocks.get(at - 1).label;
        long b = at == row.blocks.size() - 1 ? 1L << row.width : row.blocks.get(at + 1).label;
        if (b - a >= 2) {
            fresh.label = (a + b) / 2;
            return true;
        }
        if (row.kind == 0) {
            if (row.blocks.size() - 1 == 1L << row.width) {
                return false;
            }
            deal(row, row.blocks, 0, row.width);
            return true;
        }
        long of = at > 0 ? a : b;
        for (int j = 1; j <= row.width; j++) {
            long size = 1L << j;
            long x = of - of % size;
            List<Block> in = new ArrayList<>();
            for (Block k : row.blocks) {
                if (k == fresh || k.label >= x && k.label < x + size) {
                    in.add(k);
                }
            }
            if (in.size() * 2L * row.width <= size * (2L * row.width - j)) {
                deal(row, in, x, j);
                return true;
            }
        }
        return false;
    }

    /** Deals to blocks of which one is new. */
    private void deal(Row row, List<Block> in, long x, int j) {
        for (int i = 0; i < in.size(); i++) {
            in.get(i).label = dealt(x, j, in.size(), i);
        }
        world.renamed += in.size() - 1;
        row.greatest = Math.max(row.greatest, in.size());
    }

    private void dealInner(Row row, Block block) {
        for (int i = 0; i < block.stands.size(); i++) {
            block.stands.get(i).inner = (int) dealt(0, 8, block.stands.size(), i);
        }
        row.greatest = Math.max(row.greatest, block.stands.size());
    }

    /** A new one right behind another (null: at the beginning): false if it is FULL. */
    private boolean come(int r, Stand behind, Stand fresh) {
        Row row = world.rows[r];
        boolean came = row.kind < 2 ? comeAlone(row, behind, fresh) : comeToBlock(row, behind, fresh);
        for (Mark m : world.marks) {
            if (m != null && m.row == r && m.behind == behind && m.lean == 1) {
                m.behind = fresh;
            }
        }
        return came;
    }

    private boolean comeAlone(Row row, Stand behind, Stand fresh) {
        Block own = new Block();
        own.stands.add(fresh);
        row.blocks.add(behind == null ? 0 : row.blocks.indexOf(row.blockOf(behind)) + 1, own);
        return labelNewBlock(row, own);
    }

    private boolean comeToBlock(Row row, Stand behind, Stand fresh) {
        if (row.blocks.isEmpty()) {
            fresh.inner = 128;
            return comeAlone(row, null, fresh);
        }
        Block block = behind == null ? row.blocks.get(0) : row.blockOf(behind);
        int at = behind == null ? 0 : block.stands.indexOf(behind) + 1;
        int a = at == 0 ? -1 : block.stands.get(at - 1).inner;
        int b = at == block.stands.size() ? 256 : block.stands.get(at).inner;
        block.stands.add(at, fresh);
        if (b - a >= 2) {
            fresh.inner = (a + b) / 2;
        } else {
            dealInner(row, block);
            world.renamed += block.stands.size() - 1;
        }
        if (block.stands.size() < 9) {
            return true;
        }
        Block second = new Block();
        for (int i = 0; i < 4; i++) {
            second.stands.add(block.stands.remove(5));
        }
        row.blocks.add(row.blocks.indexOf(block) + 1, second);
        if (!labelNewBlock(row, second)) {
            return false;
        }
        dealInner(row, block);
        dealInner(row, second);
        world.renamed += 9;
        return true;
    }

    private void go(int r, Stand gone) {
        Row row = world.rows[r];
        List<Stand> all = row.all();
        int at = all.indexOf(gone);
        for (Mark m : world.marks) {
            if (m != null && m.behind == gone) {
                m.behind = at == 0 ? null : all.get(at - 1);
            }
        }
        Block block = row.blockOf(gone);
        block.stands.remove(gone);
        if (block.stands.isEmpty()) {
            row.blocks.remove(block);
        }
    }

    // ---- finding things

    private Stand find(int thing, boolean end) {
        for (Row row : world.rows) {
            if (row != null) {
                for (Stand s : row.all()) {
                    if (s.thing == thing && s.end == end) {
                        return s;
                    }
                }
            }
        }
        return null;
    }

    private boolean isRow(int row) {
        return row >= 0 && row < 8 && world.rows[row] != null;
    }

    private int rowIndex(int thing) {
        Stand s = find(thing, false);
        for (int r = 0; r < 8 && s != null; r++) {
            if (world.rows[r] != null && world.rows[r].all().contains(s)) {
                return r;
            }
        }
        return NONE;
    }

    private boolean bad(int thing) {
        return find(thing, false) == null;
    }

    /** Whether a place behind a THING, its END or NONE is one of a row. */
    private boolean badPlace(int row, int behind, boolean end) {
        if (!isRow(row)) {
            return true;
        }
        if (behind == NONE) {
            return end;
        }
        return bad(behind) || rowIndex(behind) != row || end && world.rows[row].kind != 3;
    }

    /** A THING, all WITHIN it and its END, in order. */
    private List<Stand> family(int thing) {
        List<Stand> all = world.rows[rowIndex(thing)].all();
        int from = all.indexOf(find(thing, false));
        Stand last = find(thing, true);
        int to = last == null ? from : all.indexOf(last);
        return new ArrayList<>(all.subList(from, to + 1));
    }

    private static int thingsOf(List<Stand> stands) {
        int n = 0;
        for (Stand s : stands) {
            n += s.end ? 0 : 1;
        }
        return n;
    }

    private List<Integer> thingsInRow(int row) {
        List<Integer> list = new ArrayList<>();
        for (Stand s : world.rows[row].all()) {
            if (!s.end) {
                list.add(s.thing);
            }
        }
        return list;
    }

    /** The THINGS WITHIN which one is, the outermost first: a stack of what has begun and not ended. */
    private List<Integer> around(int thing) {
        List<Integer> open = new ArrayList<>();
        int row = rowIndex(thing);
        if (world.rows[row].kind != 3) {
            return open;
        }
        for (Stand s : world.rows[row].all()) {
            if (s.end) {
                open.remove(open.size() - 1);
            } else if (s.thing == thing) {
                return open;
            } else {
                open.add(s.thing);
            }
        }
        throw new IllegalStateException("thing not in its row");
    }

    // ---- changes

    private World before;

    private void begin() {
        before = world.copy();
    }

    private int done(int answer) {
        kept.addLast(before);
        if (kept.size() > 8) {
            kept.removeFirst();
        }
        return answer;
    }

    private int refuse() {
        world = before;
        return FULL;
    }

    public int row(int row, int kind, int width) {
        if (row < 0 || row > 7 || kind < 0 || kind > 3 || width < 4 || width > 40) {
            return BAD;
        }
        if (world.rows[row] != null) {
            return NO;
        }
        begin();
        Row r = new Row();
        r.kind = kind;
        r.width = width;
        world.rows[row] = r;
        return done(0);
    }

    public int put(int row, int behind, boolean end) {
        if (badPlace(row, behind, end)) {
            return BAD;
        }
        begin();
        return putBehind(row, behind == NONE ? null : find(behind, end));
    }

    private int putBehind(int row, Stand behind) {
        if (things == 300) {
            return refuse();
        }
        Stand s = new Stand();
        s.thing = things;
        if (!come(row, behind, s)) {
            return refuse();
        }
        if (world.rows[row].kind == 3) {
            Stand e = new Stand();
            e.thing = things;
            e.end = true;
            if (!come(row, s, e)) {
                return refuse();
            }
        }
        things++;
        return done(things - 1);
    }

    public int drop(int thing) {
        if (bad(thing)) {
            return BAD;
        }
        begin();
        List<Stand> gone = family(thing);
        takeAway(rowIndex(thing), gone);
        return done(thingsOf(gone));
    }

    private void takeAway(int row, List<Stand> gone) {
        List<Stand> backwards = new ArrayList<>(gone);
        Collections.reverse(backwards);
        for (Stand s : backwards) {
            go(row, s);
        }
    }

    private int carry(int row, List<Stand> what, int to, Stand behind) {
        takeAway(row, what);
        for (Stand s : what) {
            if (!come(to, behind, s)) {
                return refuse();
            }
            behind = s;
        }
        return done(thingsOf(what));
    }

    public int move(int thing, int behind, boolean end) {
        if (bad(thing) || badPlace(rowIndex(thing), behind, end)) {
            return BAD;
        }
        if (behind == thing || behind != NONE && around(behind).contains(thing)) {
            return NO;
        }
        begin();
        int row = rowIndex(thing);
        return carry(row, family(thing), row, behind == NONE ? null : find(behind, end));
    }

    private Stand last(int row) {
        List<Stand> all = world.rows[row].all();
        return all.isEmpty() ? null : all.get(all.size() - 1);
    }

    public int join(int row, int to) {
        if (!isRow(row) || !isRow(to) || row == to) {
            return BAD;
        }
        if (world.rows[row].kind != world.rows[to].kind) {
            return NO;
        }
        begin();
        return carry(row, world.rows[row].all(), to, last(to));
    }

    public int split(int thing, int to) {
        if (bad(thing) || !isRow(to) || rowIndex(thing) == to) {
            return BAD;
        }
        int row = rowIndex(thing);
        if (world.rows[row].kind != world.rows[to].kind || !around(thing).isEmpty()) {
            return NO;
        }
        begin();
        List<Stand> all = world.rows[row].all();
        Stand last = world.rows[row].kind == 3 ? find(thing, true) : find(thing, false);
        return carry(row, new ArrayList<>(all.subList(all.indexOf(last) + 1, all.size())), to, last(to));
    }

    public int mark(int mark, int row, int behind, int lean) {
        if (mark < 0 || mark > 19 || lean < 0 || lean > 1 || badPlace(row, behind, false)) {
            return BAD;
        }
        begin();
        Mark m = new Mark();
        m.row = row;
        m.behind = behind == NONE ? null : find(behind, false);
        m.lean = lean;
        world.marks[mark] = m;
        return done(0);
    }

    public int putAt(int mark) {
        if (mark < 0 || mark > 19 || world.marks[mark] == null) {
            return BAD;
        }
        begin();
        return putBehind(world.marks[mark].row, world.marks[mark].behind);
    }

    public int undo() {
        if (kept.isEmpty()) {
            return NO;
        }
        world = kept.removeLast();
        return kept.size();
    }

    // ---- what is asked

    public int less(int thing, int other) {
        if (bad(thing) || bad(other)) {
            return BAD;
        }
        if (rowIndex(thing) != rowIndex(other)) {
            return NO;
        }
        int way = Integer.compare(index(thing), index(other));
        return way == 0 ? 0 : way < 0 ? 1 : 2;
    }

    public long label(int thing, boolean end) {
        Stand s = find(thing, end);
        return s == null ? BAD : world.rows[rowIndex(thing)].blockOf(s).label;
    }

    public int inner(int thing, boolean end) {
        Stand s = find(thing, end);
        return s == null ? BAD : world.rows[rowIndex(thing)].kind < 2 ? NONE : s.inner;
    }

    public int near(int thing, int what) {
        if (bad(thing) || what < 0 || what > 3) {
            return BAD;
        }
        List<Integer> list = thingsInRow(rowIndex(thing));
        int i = list.indexOf(thing);
        switch (what) {
            case 0:
                return i == 0 ? NONE : list.get(i - 1);
            case 1:
                return i == list.size() - 1 ? NONE : list.get(i + 1);
            case 2:
                List<Integer> open = around(thing);
                return open.isEmpty() ? NONE : open.get(open.size() - 1);
            default:
                List<Stand> family = family(thing);
                return family.size() > 2 ? family.get(1).thing : NONE;
        }
    }

    public int index(int thing) {
        return bad(thing) ? BAD : thingsInRow(rowIndex(thing)).indexOf(thing);
    }

    public int at(int row, int i) {
        if (!isRow(row) || i < 0) {
            return BAD;
        }
        List<Integer> list = thingsInRow(row);
        return i < list.size() ? list.get(i) : NONE;
    }

    public int between(int thing, int other) {
        if (bad(thing) || bad(other)) {
            return BAD;
        }
        if (rowIndex(thing) != rowIndex(other)) {
            return NO;
        }
        int low = Math.min(index(thing), index(other));
        int high = Math.max(index(thing), index(other));
        int n = 0;
        for (int i = low + 1; i < high; i++) {
            n++;
        }
        return n;
    }

    public int holds(int thing, int other) {
        return bad(thing) || bad(other) ? BAD : around(other).contains(thing) ? 1 : 0;
    }

    public int meet(int thing, int other) {
        if (bad(thing) || bad(other)) {
            return BAD;
        }
        if (rowIndex(thing) != rowIndex(other)) {
            return NO;
        }
        List<Integer> one = around(thing);
        one.add(thing);
        List<Integer> two = around(other);
        two.add(other);
        int meet = NONE;
        for (int i = 0; i < one.size() && i < two.size() && one.get(i).equals(two.get(i)); i++) {
            meet = one.get(i);
        }
        return meet;
    }

    public int depth(int thing) {
        return bad(thing) ? BAD : around(thing).size();
    }

    public int rowOf(int thing) {
        return thing < 0 || thing >= things ? BAD : rowIndex(thing);
    }

    public int marked(int mark) {
        if (mark < 0 || mark > 19 || world.marks[mark] == null) {
            return BAD;
        }
        Stand s = world.marks[mark].behind;
        return s == null ? NONE : s.end ? 1000 + s.thing : s.thing;
    }

    public int about(int row, int what) {
        if (!isRow(row) || what < 0 || what > 4) {
            return BAD;
        }
        Row r = world.rows[row];
        switch (what) {
            case 0:
                return r.kind;
            case 1:
                return r.width;
            case 2:
                return thingsInRow(row).size();
            case 3:
                return r.kind < 2 ? 0 : r.blocks.size();
            default:
                return r.greatest;
        }
    }

    public int isOf(int row, int kind) {
        return !isRow(row) || kind < 0 || kind > 3 ? BAD : kind <= world.rows[row].kind ? 1 : 0;
    }

    public int count(int what) {
        int n = 0;
        switch (what) {
            case 0:
                for (int r = 0; r < 8; r++) {
                    n += world.rows[r] == null ? 0 : thingsInRow(r).size();
                }
                return n;
            case 1:
                return things;
            case 2:
                return world.renamed;
            case 3:
                return kept.size();
            case 4:
                for (Mark m : world.marks) {
                    n += m == null ? 0 : 1;
                }
                return n;
            case 5:
                for (Row r : world.rows) {
                    n += r == null ? 0 : 1;
                }
                return n;
            default:
                return BAD;
        }
    }
}
