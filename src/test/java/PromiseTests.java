import java.util.function.IntSupplier;

/** For each promise of the document: ordinary inputs, the edges that it names, wrong inputs. */
public final class PromiseTests {
    private static final int NONE = -1;
    private static final int DOWN = -100;
    private static final int UNKNOWN = -101;
    private static final int OUTSIDE = -102;
    private static final int STATE = -103;
    private static final int ROOM = -104;
    private static final int DUPLICATE = -105;
    private static final int LOST = -106;
    private static final int MIN = Integer.MIN_VALUE;
    private static final int MAX = Integer.MAX_VALUE;

    private static int wrong = 0;
    private static String part = "";

    public static void main(String[] args) {
        newObject();
        add();
        change();
        remove();
        row();
        cut();
        start();
        build();
        drop();
        scan();
        merge();
        load();
        catchUp();
        step();
        info();
        logBeside();
        nodeLimit();
        entry();
        leaf();
        divisions();
        goings();
        ask();
        answer();
        cost();
        blocks();
        checkpoints();
        losses();
        rows();
        audit();
        System.out.println(wrong == 0 ? "all promises hold" : wrong + " answers are wrong");
        if (wrong != 0) {
            System.exit(1);
        }
    }

    // ---- helpers

    private static void due(String call, int got, int want) {
        if (got != want) {
            wrong++;
            System.out.println(part + ": " + call + " answered " + got + ", due is " + want);
        }
    }

    private static void dueThrow(String call, IntSupplier asked, Class<?> want) {
        String got;
        try {
            got = "answered " + asked.getAsInt();
        } catch (RuntimeException e) {
            if (e.getClass() == want) {
                return;
            }
            got = "threw " + e.getClass().getName();
        }
        wrong++;
        System.out.println(part + ": " + call + " " + got + ", due is " + want.getName());
    }

    private static void dueArgument(String call, IntSupplier asked) {
        dueThrow(call, asked, IllegalArgumentException.class);
    }

    private static void dueState(String call, IntSupplier asked) {
        dueThrow(call, asked, IllegalStateException.class);
    }

    /** A table with keys 0, by, 2 by, .. at places 0, 1, 2, .. */
    private static BuiltIndex tableOf(int rows, int by) {
        BuiltIndex x = new BuiltIndex();
        addRows(x, 0, rows, by);
        return x;
    }

    private static void addRows(BuiltIndex x, int from, int to, int by) {
        for (int i = from; i < to; i++) {
            due("add " + i, x.add(i * by, 1000 + i), i);
        }
    }

    private static BuiltIndex published(int rows, int by, boolean unique) {
        BuiltIndex x = tableOf(rows, by);
        due("build", x.build(unique), 1);
        due("step", x.step(1000), 5);
        return x;
    }

    private static BuiltIndex down() {
        BuiltIndex x = tableOf(3, 1);
        due("cut", x.cut(0, 0), 1);
        due("add", x.add(9, 9), LOST);
        return x;
    }

    private static void dueInfo(BuiltIndex x, int... want) {
        for (int what = 0; what < want.length; what++) {
            due("info(" + what + ")", x.info(what), want[what]);
        }
    }

    private static void dueBlocks(BuiltIndex x, int... want) {
        for (int what = 0; what < want.length; what++) {
            due("blocks(" + what + ")", x.blocks(what), want[what]);
        }
    }

    private static void dueEntries(BuiltIndex x, int... keysAndPlaces) {
        due("info(8)", x.info(8), keysAndPlaces.length / 2);
        for (int p = 0; p < keysAndPlaces.length / 2; p++) {
            due("entry(" + p + ") key", x.entry(p, false), keysAndPlaces[2 * p]);
            due("entry(" + p + ") place", x.entry(p, true), keysAndPlaces[2 * p + 1]);
        }
    }

    /** How many entries each leaf has, from the left. */
    private static void dueLeaves(BuiltIndex x, int... want) {
        int p = 0;
        for (int i = 0; i < want.length; i++) {
            due("leaf " + i, x.leaf(p), want[i]);
            p += want[i];
        }
        due("entries in leaves", x.info(8), p);
        due("leaf behind", x.leaf(p), UNKNOWN);
    }

    private static void dueAnswers(BuiltIndex x, int... places) {
        for (int k = 0; k < places.length; k++) {
            due("answer(" + k + ")", x.answer(k), places[k]);
        }
        due("answer behind", x.answer(places.length), NONE);
    }

    // ---- promise 1

    private static void newObject() {
        part = "1 new object";
        BuiltIndex x = new BuiltIndex();
        due("rows", x.rows(), 0);
        dueInfo(x, 0, 0, 0, 0, 0, 0, 0, 0, 0, 0, NONE, NONE);
        dueBlocks(x, 0, 0, 0, 0);
        due("start", x.start(), STATE);
        due("cost", x.cost(), 0);
        due("answer", x.answer(0), NONE);
        due("audit", x.audit(), 0);
        due("ask", x.ask(MIN, MAX), 0);
        due("drop", x.drop(), 0);
        dueArgument("row", () -> x.row(0, false));
        dueArgument("entry", () -> x.entry(0, false));
        due("leaf", x.leaf(0), UNKNOWN);
    }

    // ---- promise 2

    private static void add() {
        part = "2 add";
        BuiltIndex x = tableOf(240, 1);
        due("full", x.add(7, 7), ROOM);
        dueBlocks(x, 240 + 7 * 4, 7 * 4, 7, 30);
        due("remove", x.remove(200), 1);
        due("remove", x.remove(13), 1);
        due("least free place", x.add(MIN, MAX), 13);
        due("next free place", x.add(MAX, MIN), 200);
        due("key", x.row(13, false), MIN);
        due("value", x.row(200, true), MIN);
        due("full again", x.add(0, 0), ROOM);
        due("two with one key and no index", x.change(5, 6, 0), 1);

        BuiltIndex u = published(2, 10, true);
        int all = u.blocks(0);
        due("duplicate", u.add(10, 5), DUPLICATE);
        due("no block", u.blocks(0), all);
        due("rows", u.rows(), 2);
        due("other key", u.add(11, 5), 2);

        BuiltIndex full = new BuiltIndex();
        due("build", full.build(true), 1);
        addRows(full, 0, 240, 1);
        due("step", full.step(1000), 5);
        due("room before duplicate", full.add(3, 3), ROOM);

        BuiltIndex d = down();
        due("down", d.add(1, 1), DOWN);
    }

    // ---- promise 3

    private static void change() {
        part = "3 change";
        BuiltIndex x = tableOf(3, 10);
        due("change", x.change(1, -5, 77), 1);
        due("key", x.row(1, false), -5);
        due("value", x.row(1, true), 77);
        due("rows", x.rows(), 3);
        due("no row", x.change(3, 1, 1), UNKNOWN);
        due("below", x.change(-1, 1, 1), UNKNOWN);
        due("above", x.change(240, 1, 1), UNKNOWN);
        due("far", x.change(MAX, 1, 1), UNKNOWN);
        due("far below", x.change(MIN, 1, 1), UNKNOWN);
        dueBlocks(x, 4, 0, 0, 4);

        BuiltIndex u = published(3, 10, true);
        due("duplicate", u.change(0, 20, 1), DUPLICATE);
        due("unknown first", u.change(3, 20, 1), UNKNOWN);
        due("its own key", u.change(2, 20, 1), 1);
        due("another key", u.change(2, 5, 1), 1);
        dueEntries(u, 0, 0, 5, 2, 10, 1);
        due("audit", u.audit(), 0);
        due("cut", u.cut(0, 63), 1);
        due("lost", u.change(2, 6, 6), LOST);
        due("down", u.change(-1, 6, 6), DOWN);
        due("start", u.start(), 3);
        due("not done", u.row(2, false), 5);
    }

    // ---- promise 4

    private static void remove() {
        part = "4 remove";
        BuiltIndex x = tableOf(3, 10);
        due("remove", x.remove(1), 1);
        due("again", x.remove(1), UNKNOWN);
        due("below", x.remove(-1), UNKNOWN);
        due("above", x.remove(240), UNKNOWN);
        due("rows", x.rows(), 2);
        dueArgument("row", () -> x.row(1, true));
        dueBlocks(x, 4, 0, 0, 4);
        due("cut", x.cut(0, 1), 1);
        due("lost", x.remove(0), LOST);
        due("down", x.remove(99), DOWN);
        due("start", x.start(), 2);
        due("still there", x.row(0, true), 1000);
    }

    // ---- promise 5

    private static void row() {
        part = "5 row";
        BuiltIndex x = tableOf(2, 10);
        due("key", x.row(1, false), 10);
        due("value", x.row(1, true), 1001);
        dueArgument("no row", () -> x.row(2, false));
        dueArgument("below", () -> x.row(-1, true));
        dueArgument("above", () -> x.row(240, false));
        dueArgument("far", () -> x.row(MAX, false));
        BuiltIndex d = down();
        dueState("down", () -> d.row(0, false));
        dueState("down first", () -> d.row(-1, true));
    }

    // ---- promise 6

    private static void cut() {
        part = "6 cut";
        BuiltIndex x = new BuiltIndex();
        due("n below", x.cut(-2, 0), OUTSIDE);
        due("n above", x.cut(1001, 0), OUTSIDE);
        due("tear below", x.cut(0, -1), OUTSIDE);
        due("tear above", x.cut(0, 64), OUTSIDE);
        due("tear above with NONE", x.cut(NONE, 64), OUTSIDE);
        due("far", x.cut(MAX, MAX), OUTSIDE);
        due("far below", x.cut(MIN, MIN), OUTSIDE);
        due("nothing was set", x.add(1, 1), 0);
        due("most", x.cut(1000, 63), 1);
        due("third block", x.cut(2, 63), 1);
        due("a refused one does not count", x.cut(0, 64), OUTSIDE);
        due("first", x.add(2, 2), 1);
        due("second", x.add(3, 3), 2);
        due("third", x.add(4, 4), LOST);
        due("down", x.cut(0, 0), DOWN);
        due("down before outside", x.cut(-2, 0), DOWN);
        due("start", x.start(), 3);
        due("next block", x.cut(0, 0), 1);
        due("it stays", x.cut(NONE, 0), 1);
        due("add", x.add(5, 5), 3);
        due("set", x.cut(0, 0), 1);
        due("set anew", x.cut(1, 0), 1);
        due("one", x.add(6, 6), 4);
        due("two", x.add(7, 7), LOST);
    }

    // ---- promise 7

    private static void start() {
        part = "7 start";
        BuiltIndex x = down();
        due("start", x.start(), 3);
        due("again", x.start(), STATE);
        due("power stays", x.add(9, 9), 3);
        dueInfo(x, 0, 0, 0, 0, 0, 0, 0, 0, 0, 0, NONE, NONE);

        BuiltIndex p = published(10, 1, true);
        due("cut", p.cut(0, 5), 1);
        due("lost", p.remove(3), LOST);
        due("start", p.start(), 10);
        dueInfo(p, 5, 1, 0, 0, 0, 0, 3, 2, 10, 0, NONE, NONE);
        due("audit", p.audit(), 0);

        BuiltIndex s = tableOf(2, 0);
        due("build", s.build(true), 1);
        due("stopped", s.step(1000), 6);
        due("cut", s.cut(0, 5), 1);
        due("lost", s.add(4, 4), LOST);
        due("start", s.start(), 2);
        dueInfo(s, 0, 0, 0, 0, 0, 0, 0, 0, 0, 0, NONE, NONE);
    }

    // ---- promise 8

    private static void build() {
        part = "8 build";
        BuiltIndex x = tableOf(30, 1);
        int[] steps = {0, 20, 2, 2, 4, 1};
        int[] states = {1, 2, 3, 3, 4, 5};
        due("build", x.build(true), 1);
        for (int i = 0; i < steps.length; i++) {
            if (steps[i] > 0) {
                due("step " + i, x.step(steps[i]), states[i]);
            }
            due("state " + i, x.info(0), states[i]);
            due("build in " + states[i], x.build(false), STATE);
            due("unique", x.info(1), 1);
        }
        BuiltIndex d = down();
        due("down", d.build(true), DOWN);

        BuiltIndex s = tableOf(2, 0);
        due("build", s.build(true), 1);
        due("stopped", s.step(1000), 6);
        due("build of a stopped one", s.build(false), 1);
        dueInfo(s, 1, 0, 0, 0, 0, 0, 0, 0, 0, 0, NONE, NONE);
    }

    // ---- promise 9

    private static void drop() {
        part = "9 drop";
        BuiltIndex x = tableOf(40, 1);
        int[] steps = {3, 17, 2, 2};
        int[] states = {1, 2, 3, 3};
        for (int i = 0; i < steps.length; i++) {
            due("build", x.build(true), 1);
            for (int k = 0; k <= i; k++) {
                due("step", x.step(steps[k]), states[k]);
            }
            int all = x.blocks(0);
            due("drop", x.drop(), states[i]);
            due("no block", x.blocks(0), all);
            dueInfo(x, 0, 0, 0, 0, 0, 0, 0, 0, 0, 0, NONE, NONE);
            due("nothing to do", x.step(5), 0);
        }
        due("build", x.build(false), 1);
        due("step", x.step(1000), 5);
        due("add", x.add(99, 0), 40);
        due("change", x.change(0, 100, 0), 1);
        int all = x.blocks(0);
        int made = x.blocks(2);
        due("cut", x.cut(2, 0), 1);
        due("lost", x.drop(), LOST);
        due("down", x.drop(), DOWN);
        due("start", x.start(), 41);
        due("stays published", x.info(0), 5);
        due("blocks", x.blocks(0), all + 3);
        due("checkpoints", x.blocks(2), made);
        due("drop", x.drop(), 5);
        due("two pages and one more", x.blocks(0), all + 6);
        due("checkpoints", x.blocks(2), made + 1);
        due("writes since", x.blocks(3), 0);
        dueInfo(x, 0, 0, 0, 0, 0, 0, 0, 0, 0, 0, NONE, NONE);

        BuiltIndex s = tableOf(2, 0);
        due("build", s.build(true), 1);
        due("stopped", s.step(1000), 6);
        due("drop of a stopped one", s.drop(), 6);
        dueInfo(s, 0, 0, 0, 0, 0, 0, 0, 0, 0, 0, NONE, NONE);
    }

    // ---- promise 10

    private static void scan() {
        part = "10 scan";
        BuiltIndex x = tableOf(30, 1);
        due("remove", x.remove(20), 1);
        int all = x.blocks(0);
        due("build", x.build(false), 1);
        due("page 0", x.step(1), 1);
        dueInfo(x, 1, 0, 1, 0, 12, 0, 0, 0, 0);
        due("page 1", x.step(1), 1);
        dueInfo(x, 1, 0, 2, 0, 23, 0, 0, 0, 0);
        due("blocks", x.blocks(0), all);
        due("page 2", x.step(1), 1);
        dueInfo(x, 1, 0, 3, 1, 0, 0, 0, 0, 0);
        due("a block for each eight of 29", x.blocks(0), all + 4);
        due("a row behind", x.add(5, 5), 20);
        due("till the last page but one", x.step(16), 1);
        dueInfo(x, 1, 0, 19, 1, 0, 1, 0, 0, 0);
        due("the last page", x.step(1), 2);
        dueInfo(x, 2, 0, 20, 1, 0, 1, 0, 0, 0);
        due("no block for none", x.blocks(0), all + 5);

        BuiltIndex y = tableOf(25, -1);
        due("build", y.build(false), 1);
        due("scan", y.step(19), 1);
        dueInfo(y, 1, 0, 19, 1, 1, 0, 0, 0, 0);
        due("last", y.step(1), 2);
        dueInfo(y, 2, 0, 20, 2, 0, 0, 0, 0, 0);
        dueBlocks(y, 25 + 3 + 1);
    }

    private static void merge() {
        part = "10 merge";
        BuiltIndex x = tableOf(100, -1);
        int all = x.blocks(0);
        due("build", x.build(false), 1);
        due("scan", x.step(20), 2);
        due("five runs", x.info(3), 5);
        due("24 24 24 24 4", x.blocks(0), all += 13);
        due("step", x.step(1), 2);
        due("24 24 4 48", x.blocks(0), all += 6);
        due("step", x.step(1), 2);
        due("4 48 48", x.blocks(0), all += 6);
        due("step", x.step(1), 2);
        due("48 52", x.blocks(0), all += 7);
        due("step", x.step(1), 2);
        due("100", x.blocks(0), all += 13);
        due("one run", x.info(3), 1);
        due("step", x.step(1), 3);
        due("no block", x.blocks(0), all);
        due("one run still", x.info(3), 1);
        due("steps", x.step(1000), 5);
        for (int p = 0; p < 100; p++) {
            due("key", x.entry(p, false), p - 99);
            due("place", x.entry(p, true), 99 - p);
        }
    }

    private static void load() {
        part = "10 load";
        BuiltIndex x = tableOf(38, 1);
        due("build", x.build(false), 1);
        due("scan", x.step(20), 2);
        due("merge", x.step(2), 3);
        int all = x.blocks(0);
        for (int i = 1; i <= 9; i++) {
            due("step", x.step(1), 3);
            dueInfo(x, 3, 0, 20, 1, 0, 0, i, 0, 0);
            due("blocks", x.blocks(0), all + i);
            dueArgument("no tree yet", () -> x.entry(0, true));
            due("no leaf yet", x.leaf(0), UNKNOWN);
        }
        due("root", x.step(1), 4);
        dueInfo(x, 4, 0, 20, 1, 0, 0, 10, 3, 38);
        dueLeaves(x, 6, 6, 6, 6, 6, 6, 2);
        due("audit", x.audit(), 0);

        int[] entries = {0, 1, 6, 7, 36, 37, 216, 217, 240};
        int[] nodes = {1, 1, 1, 3, 7, 10, 43, 47, 50};
        int[] rows = {1, 1, 1, 2, 2, 3, 3, 4, 4};
        for (int i = 0; i < entries.length; i++) {
            BuiltIndex y = published(entries[i], 3, true);
            due("nodes of " + entries[i], y.info(6), nodes[i]);
            due("rows of " + entries[i], y.info(7), rows[i]);
            due("entries of " + entries[i], y.info(8), entries[i]);
            due("audit", y.audit(), 0);
        }
    }

    private static void catchUp() {
        part = "10 catch";
        BuiltIndex x = new BuiltIndex();
        due("build", x.build(false), 1);
        due("till catch", x.step(22), 4);
        dueInfo(x, 4, 0, 20, 0, 0, 0, 1, 1, 0);
        dueBlocks(x, 1, 0, 0, 0);
        due("add", x.add(5, 0), 0);
        due("add", x.add(3, 0), 1);
        due("change", x.change(0, 2, 0), 1);
        due("same key", x.change(0, 2, 9), 1);
        due("remove", x.remove(1), 1);
        dueInfo(x, 4, 0, 20, 0, 0, 5, 1, 1, 0);
        due("first", x.step(1), 4);
        dueEntries(x, 5, 0);
        due("second", x.step(1), 4);
        dueEntries(x, 3, 1, 5, 0);
        due("third", x.step(1), 4);
        dueEntries(x, 3, 1);
        due("fourth", x.step(1), 4);
        dueEntries(x, 2, 0, 3, 1);
        due("fifth", x.step(1), 4);
        dueEntries(x, 2, 0);
        due("log", x.info(5), 0);
        dueBlocks(x, 6, 0, 0, 5);
        due("published", x.step(1), 5);
        dueBlocks(x, 9, 3, 1, 0);
        dueInfo(x, 5, 0, 0, 0, 0, 0, 1, 1, 1, 0, NONE, NONE);

        BuiltIndex u = tableOf(6, 10);
        due("two with one key", u.change(5, 30, 0), 1);
        due("three with one key", u.change(4, 30, 0), 1);
        due("two with a less one", u.change(2, 0, 0), 1);
        due("build", u.build(true), 1);
        due("till catch", u.step(22), 4);
        due("less still", u.change(0, -7, 0), 1);
        due("log", u.step(2), 4);
        int all = u.blocks(0);
        due("stopped", u.step(1000), 6);
        dueInfo(u, 6, 1, 0, 0, 0, 0, 0, 0, 0, 3, 3, 4);
        due("no block", u.blocks(0), all);
        due("then", u.remove(3), 1);
        due("then", u.info(10), 3);
        due("no refusal", u.add(30, 0), 3);
    }

    private static void step() {
        part = "10 step";
        BuiltIndex x = new BuiltIndex();
        due("none", x.step(0), OUTSIDE);
        due("below", x.step(-1), OUTSIDE);
        due("above", x.step(1001), OUTSIDE);
        due("far", x.step(MAX), OUTSIDE);
        due("far below", x.step(MIN), OUTSIDE);
        due("no index", x.step(1), 0);
        due("no index", x.step(1000), 0);
        due("build", x.build(false), 1);
        due("outside still", x.step(0), OUTSIDE);
        due("page", x.info(2), 0);
        due("published", x.step(1000), 5);
        due("nothing more", x.step(1000), 5);
        BuiltIndex d = down();
        due("down", d.step(1), DOWN);
        due("down first", d.step(0), DOWN);
    }

    // ---- promise 11

    private static void info() {
        part = "11 info";
        BuiltIndex x = tableOf(30, 1);
        due("below", x.info(-1), OUTSIDE);
        due("above", x.info(12), OUTSIDE);
        due("far", x.info(MAX), OUTSIDE);
        due("far below", x.info(MIN), OUTSIDE);
        due("build", x.build(true), 1);
        dueInfo(x, 1, 1, 0, 0, 0, 0, 0, 0, 0, 0, NONE, NONE);
        due("scan", x.step(20), 2);
        dueInfo(x, 2, 1, 20, 2, 0, 0, 0, 0, 0, 0, NONE, NONE);
        due("change", x.change(0, -1, 0), 1);
        due("load", x.step(3), 3);
        dueInfo(x, 3, 1, 20, 1, 0, 2, 1, 0, 0, 0, NONE, NONE);
        due("catch", x.step(5), 4);
        dueInfo(x, 4, 1, 20, 1, 0, 2, 6, 2, 30, 0, NONE, NONE);
        due("published", x.step(3), 5);
        dueInfo(x, 5, 1, 0, 0, 0, 0, 6, 2, 30, 0, NONE, NONE);
        BuiltIndex d = down();
        due("down", d.info(0), DOWN);
        due("down first", d.info(12), DOWN);
    }

    private static void logBeside() {
        part = "2 log beside";
        BuiltIndex x = tableOf(30, 1);
        due("build", x.build(false), 1);
        due("page 0", x.step(1), 1);
        due("not scanned", x.change(12, 50, 0), 1);
        due("not scanned", x.remove(13), 1);
        due("not scanned", x.add(51, 0), 13);
        due("none", x.info(5), 0);
        due("last of page 0", x.remove(11), 1);
        due("one", x.info(5), 1);
        due("it comes", x.add(52, 0), 11);
        due("two", x.info(5), 2);
        due("value alone", x.change(0, 0, 8), 1);
        due("two", x.info(5), 2);
        for (int i = 0; i < 19; i++) {
            due("change", x.change(1, 100 + i, 0), 1);
        }
        due("forty", x.info(5), 40);
        due("state", x.info(0), 1);
        due("value alone", x.change(0, 0, 9), 1);
        due("not scanned", x.change(12, 60, 0), 1);
        due("state", x.info(0), 1);
        due("one more", x.remove(0), 1);
        dueInfo(x, 6, 0, 0, 0, 0, 0, 0, 0, 0, 1, NONE, NONE);
        due("done all the same", x.rows(), 29);
        due("nothing more", x.step(3), 6);

        BuiltIndex y = tableOf(2, 1);
        due("build", y.build(true), 1);
        due("page 0", y.step(1), 1);
        due("one", y.remove(1), 1);
        for (int i = 0; i < 19; i++) {
            due("change", y.change(0, 100 + i, 0), 1);
        }
        due("39", y.info(5), 39);
        due("two more, one too many", y.change(0, 7, 7), 1);
        dueInfo(y, 6, 1, 0, 0, 0, 0, 0, 0, 0, 1, NONE, NONE);
        due("done", y.row(0, false), 7);
    }

    private static void nodeLimit() {
        part = "2 nodes";
        BuiltIndex x = published(0, 0, false);
        int rows = 0;
        for (int i = 0; i < 240 && x.info(0) == 5; i++) {
            due("add", x.add(i, 0), i);
            rows++;
        }
        // leaves of four, nodes over four of them: 64 are full before the 201st row
        due("rows till stop", rows, 201);
        dueInfo(x, 6, 0, 0, 0, 0, 0, 0, 0, 0, 2, NONE, NONE);
        due("done", x.rows(), 201);
        due("cost", x.ask(0, 10) + x.cost(), 11 + 20);
        int before = x.blocks(1);
        while (x.blocks(3) < 30) {
            due("change", x.change(0, 0, 0), 1);
        }
        due("change", x.change(0, 0, 0), 1);
        due("no nodes in the next checkpoint", x.blocks(1) - before, 4);

        BuiltIndex y = new BuiltIndex();
        due("build", y.build(false), 1);
        due("till catch", y.step(22), 4);
        for (int i = 0; i < 200; i++) {
            due("add", y.add(i, 0), i);
            if (y.info(5) == 40) {
                due("catch", y.step(40), 4);
            }
        }
        due("nodes", y.info(6), 64);
        due("add", y.add(200, 0), 200);
        due("one more", y.step(1), 6);
        dueInfo(y, 6, 0, 0, 0, 0, 0, 0, 0, 0, 2, NONE, NONE);

        BuiltIndex z = published(0, 0, false);
        for (int i = 0; i < 201; i++) {
            due("add", z.add(i, 0), i);
        }
        due("cut", z.cut(0, 0), 1);
        due("lost", z.add(0, 0), LOST);
        due("start", z.start(), 201);
        dueInfo(z, 0, 0, 0, 0, 0, 0, 0, 0, 0, 0, NONE, NONE);
    }

    // ---- promises 12 and 13

    private static void entry() {
        part = "12 entry";
        BuiltIndex x = new BuiltIndex();
        int[] keys = {5, MIN, 5, MAX, -1, 0};
        for (int key : keys) {
            x.add(key, 0);
        }
        due("build", x.build(false), 1);
        dueArgument("scan", () -> x.entry(0, false));
        due("till load", x.step(21), 3);
        dueArgument("load", () -> x.entry(0, false));
        due("catch", x.step(1), 4);
        dueEntries(x, MIN, 1, -1, 4, 0, 5, 5, 0, 5, 2, MAX, 3);
        due("published", x.step(1), 5);
        dueEntries(x, MIN, 1, -1, 4, 0, 5, 5, 0, 5, 2, MAX, 3);
        dueArgument("below", () -> x.entry(-1, false));
        dueArgument("behind", () -> x.entry(6, true));
        dueArgument("far", () -> x.entry(MAX, true));
        dueArgument("far below", () -> x.entry(MIN, true));
        due("cut", x.cut(0, 0), 1);
        due("lost", x.remove(0), LOST);
        dueState("down", () -> x.entry(0, true));
        dueState("down first", () -> x.entry(-1, true));
    }

    private static void leaf() {
        part = "13 leaf";
        BuiltIndex x = published(15, 1, false);
        int[] want = {6, 6, 6, 6, 6, 6, 6, 6, 6, 6, 6, 6, 3, 3, 3};
        for (int p = 0; p < 15; p++) {
            due("leaf(" + p + ")", x.leaf(p), want[p]);
        }
        due("below", x.leaf(-1), UNKNOWN);
        due("behind", x.leaf(15), UNKNOWN);
        due("far", x.leaf(MAX), UNKNOWN);
        due("far below", x.leaf(MIN), UNKNOWN);
        due("drop", x.drop(), 5);
        due("no tree", x.leaf(0), UNKNOWN);
        BuiltIndex d = down();
        due("down", d.leaf(-1), DOWN);
    }

    // ---- the tree

    private static void divisions() {
        part = "2 the tree: an entry comes";
        BuiltIndex x = published(12, 10, false);
        dueLeaves(x, 6, 6);
        due("before all: the first leaf", x.add(-1, 0), 12);
        dueLeaves(x, 7, 6);
        due("between: the left leaf", x.add(59, 0), 13);
        dueLeaves(x, 8, 6);
        due("same key, a later place: the right leaf", x.add(60, 0), 14);
        dueLeaves(x, 8, 7);
        due("divided", x.add(58, 0), 15);
        dueLeaves(x, 4, 5, 7);
        dueInfo(x, 5, 0, 0, 0, 0, 0, 4, 2, 16);

        BuiltIndex y = published(8, 10, false);
        due("remove", y.remove(0), 1);
        due("the begin of the right leaf, a lesser place", y.add(60, 0), 0);
        dueLeaves(y, 6, 2);
        dueEntries(y, 10, 1, 20, 2, 30, 3, 40, 4, 50, 5, 60, 0, 60, 6, 70, 7);

        BuiltIndex z = published(48, 10, false);
        dueLeaves(z, 6, 6, 6, 6, 6, 6, 6, 6);
        dueInfo(z, 5, 0, 0, 0, 0, 0, 11, 3, 48);
        for (int leaf = 0; leaf < 3; leaf++) {
            for (int i = 0; i < 3; i++) {
                z.add(60 * leaf + 51 + i, 0);
            }
        }
        // six nodes and three new ones are nine in the left node: four stay, five are a new one
        dueLeaves(z, 4, 5, 4, 5, 4, 5, 6, 6, 6, 6, 6);
        dueInfo(z, 5, 0, 0, 0, 0, 0, 15, 3, 57);
        due("audit", z.audit(), 0);
    }

    private static void goings() {
        part = "2 the tree: an entry goes";
        BuiltIndex x = published(7, 1, false);
        dueInfo(x, 5, 0, 0, 0, 0, 0, 3, 2, 7);
        due("remove", x.remove(6), 1);
        dueInfo(x, 5, 0, 0, 0, 0, 0, 1, 1, 6);
        for (int i = 0; i < 6; i++) {
            due("remove", x.remove(i), 1);
        }
        dueInfo(x, 5, 0, 0, 0, 0, 0, 1, 1, 0);
        due("audit", x.audit(), 0);
        due("add", x.add(1, 1), 0);
        dueEntries(x, 1, 0);

        BuiltIndex y = published(37, 1, false);
        dueInfo(y, 5, 0, 0, 0, 0, 0, 10, 3, 37);
        for (int i = 0; i < 30; i++) {
            due("remove", y.remove(i), 1);
        }
        dueLeaves(y, 6, 1);
        dueInfo(y, 5, 0, 0, 0, 0, 0, 5, 3, 7);
        due("its leaf, the node over it, the root and the next root", y.remove(36), 1);
        dueInfo(y, 5, 0, 0, 0, 0, 0, 1, 1, 6);
        dueLeaves(y, 6);

        // the old entry goes before the new one comes: a leaf that it alone was in is gone
        BuiltIndex z = published(7, 10, false);
        due("change", z.change(6, 61, 0), 1);
        dueLeaves(z, 7);
        due("audit", z.audit(), 0);
    }

    // ---- promises 14 to 16

    private static void ask() {
        part = "14 ask";
        BuiltIndex x = new BuiltIndex();
        int[] keys = {7, 3, MAX, 3, MIN, 7};
        for (int key : keys) {
            x.add(key, 0);
        }
        for (int round = 0; round < 2; round++) {
            due("all", x.ask(MIN, MAX), 6);
            due("from to", x.ask(3, 7), 4);
            due("one key", x.ask(3, 3), 2);
            due("between", x.ask(4, 6), 0);
            due("turned", x.ask(7, 3), 0);
            due("least", x.ask(MIN, MIN), 1);
            due("most", x.ask(MAX, MAX), 1);
            x.build(false);
            x.step(1000);
        }
        BuiltIndex d = down();
        due("down", d.ask(0, 1), DOWN);
    }

    private static void answer() {
        part = "15 answer";
        BuiltIndex x = new BuiltIndex();
        int[] keys = {7, 3, 9, 3, 8};
        for (int key : keys) {
            x.add(key, 0);
        }
        due("before any", x.answer(0), NONE);
        due("by places", x.ask(3, 8), 4);
        dueAnswers(x, 0, 1, 3, 4);
        due("below", x.answer(-1), NONE);
        due("far", x.answer(MAX), NONE);
        due("far below", x.answer(MIN), NONE);
        due("build", x.build(false), 1);
        due("till catch", x.step(22), 4);
        due("by places", x.ask(3, 8), 4);
        dueAnswers(x, 0, 1, 3, 4);
        due("published", x.step(1), 5);
        due("by entries", x.ask(3, 8), 4);
        dueAnswers(x, 1, 3, 0, 4);
        due("remove", x.remove(1), 1);
        dueAnswers(x, 1, 3, 0, 4);
        due("cut", x.cut(0, 0), 1);
        due("lost", x.remove(3), LOST);
        due("down", x.ask(9, 9), DOWN);
        dueAnswers(x, 1, 3, 0, 4);
        due("start", x.start(), 4);
        dueAnswers(x, 1, 3, 0, 4);
        due("none", x.ask(100, 200), 0);
        dueAnswers(x);
    }

    private static void cost() {
        part = "16 cost";
        BuiltIndex x = tableOf(48, 10);
        due("before any", x.cost(), 0);
        due("ask", x.ask(5, 5), 0);
        due("table", x.cost(), 20);
        due("build", x.build(false), 1);
        due("step", x.step(1000), 5);
        due("still", x.cost(), 20);
        int[][] asked = {
            {0, 0, 3}, {0, 59, 3}, {0, 60, 4}, {59, 60, 4}, {60, 60, 4}, {61, 61, 3}, {61, 120, 4},
            {MIN, MIN, 3}, {MIN, MAX, 10}, {0, 470, 10}, {420, 470, 4}, {421, 470, 3}, {MAX, MAX, 3},
            {470, 0, 3}, {355, 361, 4}, {MAX, MIN, 3},
        };
        for (int[] a : asked) {
            x.ask(a[0], a[1]);
            due("ask(" + a[0] + ", " + a[1] + ") cost", x.cost(), a[2]);
        }
        // a leaf that begins at place 0 is where an entry of its key and place 0 would come
        due("change", x.change(0, 1000, 0), 1);
        due("ask", x.ask(1000, 1000), 1);
        due("cost", x.cost(), 3);
        due("cut", x.cut(0, 0), 1);
        due("lost", x.remove(3), LOST);
        due("down", x.ask(0, 0), DOWN);
        due("latest that was", x.cost(), 3);

        BuiltIndex e = published(0, 0, false);
        due("empty", e.ask(0, 9), 0);
        due("empty leaf", e.cost(), 1);
    }

    // ---- promise 17

    private static void blocks() {
        part = "17 blocks";
        BuiltIndex x = tableOf(31, 1);
        dueBlocks(x, 35, 4, 1, 1);
        due("below", x.blocks(-1), OUTSIDE);
        due("above", x.blocks(4), OUTSIDE);
        due("far", x.blocks(MAX), OUTSIDE);
        due("far below", x.blocks(MIN), OUTSIDE);
        due("cut", x.cut(0, 9), 1);
        due("lost", x.add(1, 1), LOST);
        dueBlocks(x, 36, 4, 1, 1);
        due("outside still", x.blocks(4), OUTSIDE);
        due("start", x.start(), 31);
        dueBlocks(x, 36, 4, 1, 1);
    }

    private static void checkpoints() {
        part = "1 checkpoints";
        BuiltIndex x = tableOf(30, 1);
        dueBlocks(x, 30, 0, 0, 30);
        due("refused: none is made", x.remove(99), UNKNOWN);
        dueBlocks(x, 30, 0, 0, 30);
        due("before the write", x.change(29, 5, 5), 1);
        dueBlocks(x, 35, 4, 1, 1);
        for (int i = 0; i < 30; i++) {
            due("change", x.change(3, i, i), 1);
        }
        dueBlocks(x, 68, 7, 2, 1);

        BuiltIndex y = published(48, 10, false);
        int before = y.blocks(1);
        for (int i = 0; i < 30; i++) {
            due("value alone", y.change(0, 0, i), 1);
        }
        due("key", y.change(0, 1, 0), 1);
        due("no nodes for values", y.blocks(1) - before, 2);
        before = y.blocks(1);
        due("back", y.change(0, 0, 0), 1);
        for (int i = 0; i < 28; i++) {
            due("value alone", y.change(0, 0, i), 1);
        }
        due("change", y.change(0, 0, 0), 1);
        due("a leaf that is as it was, one page, one more", y.blocks(1) - before, 3);

        BuiltIndex z = published(14, 10, false);
        dueInfo(z, 5, 0, 0, 0, 0, 0, 4, 2, 14);
        before = z.blocks(1);
        due("remove", z.remove(12), 1);
        due("its leaf is no more", z.remove(13), 1);
        for (int i = 0; i < 28; i++) {
            due("value alone", z.change(0, 0, i), 1);
        }
        due("change", z.change(0, 0, 0), 1);
        due("the root, two pages, one more", z.blocks(1) - before, 4);
    }

    private static void losses() {
        part = "1 losses";
        for (int at = 0; at < 5; at++) {
            BuiltIndex x = tableOf(30, 1);
            due("cut", x.cut(at, 7 * at), 1);
            due("lost", x.add(99, 9), LOST);
            boolean made = at == 4;
            dueBlocks(x, 31 + at, made ? 4 : 0, made ? 1 : 0, made ? 0 : 30);
            due("rows", x.rows(), DOWN);
            due("start", x.start(), 30);
            due("add", x.add(99, 9), 30);
            dueBlocks(x, 32 + at + (made ? 0 : 4), 4, 1, 1);
        }
        lossesInSteps();
        part = "1 losses of a published index";
        for (int at = 0; at < 15; at++) {
            BuiltIndex x = published(14, 10, true);
            int before = x.blocks(1);
            for (int i = 0; i < 30; i++) {
                due("add", x.add(141 + i, 0), 14 + i);
            }
            int nodes = x.info(6);
            int leaf = x.leaf(20);
            due("cut", x.cut(at, 0), 1);
            due("lost", x.remove(0), LOST);
            due("start", x.start(), 44);
            due("state", x.info(0), 5);
            due("nodes", x.info(6), nodes);
            due("leaf", x.leaf(20), leaf);
            due("audit", x.audit(), 0);
            due("remove", x.remove(0), 1);
            // pages 1, 2, 3; seven leaves from the third on; the old root, one beside it, one over it; one
            due("blocks", x.blocks(1) - before, 14);
        }
    }

    /** 49 rows: runs of 24, 24, 1 and merged ones, nine leaves, two nodes, a root, a checkpoint. */
    private static void lossesInSteps() {
        part = "1 losses in steps";
        int all = 3 + 3 + 1 + 6 + 7 + 12;
        int checkpoint = 3 + 12 + 1;
        for (int at = 0; at <= all + checkpoint; at++) {
            BuiltIndex x = tableOf(49, 1);
            int blocks = x.blocks(0);
            int of = x.blocks(1);
            due("build", x.build(true), 1);
            due("cut", x.cut(at, 63), 1);
            if (at == all + checkpoint) {
                due("step", x.step(1000), 5);
                due("blocks", x.blocks(0), blocks + at);
                due("checkpoint", x.blocks(1), of + checkpoint);
                due("writes since", x.blocks(3), 0);
                continue;
            }
            due("lost", x.step(1000), LOST);
            dueBlocks(x, blocks + at + 1, of, 1, 19);
            due("down", x.info(0), DOWN);
            due("start", x.start(), 49);
            dueInfo(x, 0, 0, 0, 0, 0, 0, 0, 0, 0, 0, NONE, NONE);
            due("build", x.build(true), 1);
            due("step", x.step(1000), 5);
            due("audit", x.audit(), 0);
            due("checkpoint", x.blocks(1), of + checkpoint);
        }
    }

    // ---- promises 18 and 19

    private static void rows() {
        part = "18 rows";
        BuiltIndex x = tableOf(5, 1);
        due("rows", x.rows(), 5);
        due("remove", x.remove(2), 1);
        due("rows", x.rows(), 4);
        due("change", x.change(1, 1, 1), 1);
        due("rows", x.rows(), 4);
        BuiltIndex d = down();
        due("down", d.rows(), DOWN);
    }

    private static void audit() {
        part = "19 audit";
        BuiltIndex x = published(100, 7, true);
        for (int i = 0; i < 100; i++) {
            due("change", x.change(i, 7 * ((i * 37) % 100) + 1, 0), 1);
            due("audit", x.audit(), 0);
        }
        BuiltIndex d = down();
        due("down", d.audit(), DOWN);
    }
}
