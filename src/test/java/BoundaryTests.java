import java.util.function.IntSupplier;

/**
 * For each sentence of the document that names a boundary case or a refused call: a test of its own
 * that names the sentence, at the boundary, one below it and one above it, where there is such a
 * value. No object is called more than 512 times.
 */
public final class BoundaryTests {
    private static final int NONE = -1;
    private static final int DOWN = -100;
    private static final int UNKNOWN = -101;
    private static final int OUTSIDE = -102;
    private static final int STATE = -103;
    private static final int ROOM = -104;
    private static final int DUPLICATE = -105;
    private static final int LOST = -106;
    private static final int MIN = Integer.MIN_VALUE;
    private static final int MAX = Integer.MAX_VALUE;

    private static int wrong = 0;
    private static int sentences = 0;
    private static String sentence = "";

    public static void main(String[] args) {
        table();
        power();
        scanAndMerge();
        loadAndCatch();
        logBeside();
        nodesAndUnique();
        tree();
        questions();
        calls();
        System.out.println(sentences + " sentences, " + wrong + " answers are wrong");
        if (wrong != 0) {
            System.exit(1);
        }
    }

    private static void table() {
        mostCalls();
        stoppedIsAsNone();
        places();
        placesOfAPage();
        pagesOfTheScan();
        keysAndValues();
        oneBlockForAWrite();
        noBlockForARefusedWrite();
        thirtyWrites();
        thirtyAfterOtherCheckpoints();
        pagesOfACheckpoint();
        nodesOfACheckpoint();
        nodesThatAreNoMore();
        nodesOfWhatIsNotPublished();
        oneMoreBlock();
    }

    private static void power() {
        wordsOfATornBlock();
        lostWrites();
        lostCheckpoints();
        lostBuilding();
        lostInSteps();
        whatIsBackAfterALoss();
        nextCheckpointAfterALoss();
        stateAfterALoss();
    }

    private static void scanAndMerge() {
        orderOfEntries();
        pageByPage();
        enoughForARun();
        lastPageOfTheScan();
        blocksOfARun();
        behindTheLastPage();
        twoOrMoreRuns();
        behindAllOtherRuns();
        blocksOfAMergedRun();
    }

    private static void loadAndCatch() {
        leavesOfSix();
        nodesOverSix();
        aloneInItsRow();
        firstOfTheLog();
        twoRowsWithOneKey();
        checkpointWithAllNodes();
    }

    private static void logBeside() {
        placesThatAreLogged();
        whatIsLogged();
        fortyInTheLog();
        fortyInTheLogByAChange();
        roomAgainInTheLog();
    }

    private static void nodesAndUnique() {
        nodesWhilePublished();
        nodesByTwo();
        nodesUpToTheRoot();
        nodesThatMakeRoom();
        nodesInCatch();
        nodesInLoad();
        duplicates();
        duplicatesWhilePublishedAlone();
    }

    private static void tree() {
        oneToEight();
        emptyRoot();
        lastThatBeginsNotBehind();
        firstIfThereIsNone();
        fourStay();
        nineNodes();
        dividedRoot();
        leafWithoutEntries();
        nodeWithoutNodes();
        rootOverOne();
    }

    private static void questions() {
        fromLowToHigh();
        orderOfAnswers();
        costOfTheWay();
        costOfLeavesToTheRight();
        costOfTheTable();
        refusalsDoNothing();
        firstRefusal();
    }

    private static void calls() {
        promise1();
        promise2();
        promise3();
        promise4();
        promise5();
        promise6();
        promise6FarBlocks();
        promise7();
        promise8();
        promise9();
        promise9Lost();
        promise10();
        promise10Lost();
        promise11();
        promise11WhyStopped();
        promise12();
        promise13();
        promise14();
        promise15();
        promise16();
        promise17();
        promise18();
        promise19();
    }

    // ======== helpers

    /** Names a sentence by its section and its words (" .. " where some are left out). */
    private static void sentence(String words) {
        sentence = words;
        sentences++;
    }

    /** A sentence that has several boundaries: which of them. */
    private static void sentence(String words, String which) {
        sentence(words + " -- " + which);
    }

    private static void due(String call, int got, int want) {
        if (got != want) {
            wrong++;
            System.out.println("[" + sentence + "] " + call + " answered " + got + ", due is " + want);
        }
    }

    private static void dueSame(String what, String got, String want) {
        if (!got.equals(want)) {
            wrong++;
            System.out.println("[" + sentence + "] " + what + " is " + got + ", due is " + want);
        }
    }

    private static void dueThrow(String call, IntSupplier asked, Class<?> want) {
        String got;
        try {
            got = "answered " + asked.getAsInt();
        } catch (RuntimeException e) {
            if (e.getClass() == want) {
                return;
            }
            got = "threw " + e.getClass().getName();
        }
        wrong++;
        System.out.println("[" + sentence + "] " + call + " " + got + ", due is " + want.getName());
    }

    private static void dueArgument(String call, IntSupplier asked) {
        dueThrow(call, asked, IllegalArgumentException.class);
    }

    private static void dueState(String call, IntSupplier asked) {
        dueThrow(call, asked, IllegalStateException.class);
    }

    /** A table with keys 0, by, 2 by, .. at places 0, 1, 2, .. and values 1000, 1001, .. */
    private static BuiltIndex tableOf(int rows, int by) {
        BuiltIndex x = new BuiltIndex();
        addRows(x, 0, rows, by);
        return x;
    }

    private static void addRows(BuiltIndex x, int from, int to, int by) {
        for (int i = from; i < to; i++) {
            due("add " + i, x.add(i * by, 1000 + i), i);
        }
    }

    private static void removeRows(BuiltIndex x, int from, int to) {
        for (int i = from; i < to; i++) {
            due("remove " + i, x.remove(i), 1);
        }
    }

    private static BuiltIndex published(int rows, int by, boolean unique) {
        BuiltIndex x = tableOf(rows, by);
        due("build", x.build(unique), 1);
        due("step", x.step(1000), 5);
        return x;
    }

    /** A table whose latest checkpoint was made just now, without an index. */
    private static BuiltIndex cleanTable(int rows) {
        BuiltIndex x = published(rows, 10, false);
        due("drop", x.drop(), 5);
        due("writes since", x.blocks(3), 0);
        return x;
    }

    /** Rows of keys 10, 20, 30 at places 0, 1, 2, and an index in this STATE, unique. */
    private static BuiltIndex inState(int state) {
        int[] steps = {0, 0, 20, 21, 22, 23, 23};
        BuiltIndex x = new BuiltIndex();
        x.add(10, 100);
        x.add(state == 6 ? 10 : 20, 200);
        x.add(30, 300);
        if (state > 0) {
            due("build", x.build(true), 1);
        }
        if (steps[state] > 0) {
            due("step", x.step(steps[state]), state);
        }
        if (state == 6) {
            due("change", x.change(1, 20, 200), 1);
        }
        due("state", x.info(0), state);
        return x;
    }

    private static void lose(BuiltIndex x) {
        due("cut", x.cut(0, 63), 1);
        due("lost", x.add(12345, 0), LOST);
    }

    private static BuiltIndex down() {
        BuiltIndex x = inState(0);
        lose(x);
        return x;
    }

    private static void dueInfo(BuiltIndex x, int... want) {
        for (int what = 0; what < want.length; what++) {
            due("info(" + what + ")", x.info(what), want[what]);
        }
    }

    private static void dueNoIndex(BuiltIndex x) {
        dueInfo(x, 0, 0, 0, 0, 0, 0, 0, 0, 0, 0, NONE, NONE);
    }

    private static void dueBlocks(BuiltIndex x, int... want) {
        for (int what = 0; what < want.length; what++) {
            due("blocks(" + what + ")", x.blocks(what), want[what]);
        }
    }

    private static void dueEntries(BuiltIndex x, int... keysAndPlaces) {
        due("info(8)", x.info(8), keysAndPlaces.length / 2);
        for (int p = 0; p < keysAndPlaces.length / 2; p++) {
            due("entry(" + p + ") key", x.entry(p, false), keysAndPlaces[2 * p]);
            due("entry(" + p + ") place", x.entry(p, true), keysAndPlaces[2 * p + 1]);
        }
    }

    /** How many entries each leaf has, from the left. */
    private static void dueLeaves(BuiltIndex x, int... want) {
        int p = 0;
        for (int i = 0; i < want.length; i++) {
            due("leaf " + i, x.leaf(p), want[i]);
            p += want[i];
        }
        due("entries in leaves", x.info(8), p);
        due("leaf behind", x.leaf(p), UNKNOWN);
    }

    private static void dueTree(BuiltIndex x, int nodes, int rowsOfNodes, int entries) {
        due("nodes", x.info(6), nodes);
        due("rows of nodes", x.info(7), rowsOfNodes);
        due("entries", x.info(8), entries);
        due("audit", x.audit(), 0);
    }

    private static void dueAnswers(BuiltIndex x, int... places) {
        for (int k = 0; k < places.length; k++) {
            due("answer(" + k + ")", x.answer(k), places[k]);
        }
        due("answer behind", x.answer(places.length), NONE);
    }

    private static void dueCost(BuiltIndex x, int low, int high, int want) {
        x.ask(low, high);
        due("cost of " + low + " .. " + high, x.cost(), want);
    }

    /** Writes values alone at a place till the next checkpoint is made: how many blocks it has. */
    private static int nextCheckpoint(BuiltIndex x, int... places) {
        int before = x.blocks(1);
        int made = x.blocks(2);
        int left = 31 - x.blocks(3);
        for (int i = 0; i < left; i++) {
            int place = places[i % places.length];
            due("no checkpoint yet", x.blocks(2), made);
            due("change", x.change(place, x.row(place, false), i), 1);
        }
        due("checkpoints", x.blocks(2), made + 1);
        return x.blocks(1) - before;
    }

    /** What can be seen of an object that is not DOWN, of its first eight places. */
    private static String seen(BuiltIndex x) {
        StringBuilder s = new StringBuilder();
        for (int what = 0; what <= 11; what++) {
            s.append(x.info(what)).append(' ');
        }
        for (int what = 0; what <= 3; what++) {
            s.append(x.blocks(what)).append(' ');
        }
        s.append(x.rows()).append(' ').append(x.cost()).append(' ').append(x.answer(0));
        for (int place = 0; place < 8; place++) {
            s.append(' ').append(rowText(x, place));
        }
        return s.toString();
    }

    private static String rowText(BuiltIndex x, int place) {
        try {
            return x.row(place, false) + "/" + x.row(place, true);
        } catch (IllegalArgumentException e) {
            return "none";
        }
    }

    // ======== What it is, and 1 THE TABLE

    private static void mostCalls() {
        sentence("What it is: An object is used for at most 512 calls after it has been made");
        BuiltIndex x = new BuiltIndex();
        addRows(x, 0, 240, 1);
        removeRows(x, 0, 240);
        due("call 481", x.build(true), 1);
        due("call 482", x.step(1000), 5);
        addRows(x, 0, 28, 1);
        due("call 511", x.audit(), 0);
        due("call 512", x.rows(), 28);
    }

    private static void stoppedIsAsNone() {
        sentence("What it is: or it stops, and the table is as if there had been none");
        BuiltIndex none = tableOf(40, 1);
        BuiltIndex three = tableOf(40, 1);
        BuiltIndex one = tableOf(40, 1);
        for (BuiltIndex x : new BuiltIndex[] {none, three, one}) {
            due("two with one key", x.change(39, 0, 0), 1);
        }
        due("build", three.build(true), 1);
        due("stopped for 3", three.step(1000), 6);
        due("build", one.build(true), 1);
        due("page 0", one.step(1), 1);
        for (BuiltIndex x : new BuiltIndex[] {none, three, one}) {
            for (int i = 0; i < 21; i++) {
                due("change", x.change(0, 100 + i, i), 1);
            }
            due("another one with that key", x.add(120, 0), 40);
            due("remove", x.remove(13), 1);
            due("rows", x.rows(), 40);
            due("key", x.row(0, false), 120);
            // pages 0, 1, 2; then 2 and 3 by the rows behind, and 0
            dueBlocks(x, x.blocks(0), 4 + 4, 2, 4);
            due("ask", x.ask(100, 120), 2);
            dueAnswers(x, 0, 40);
            due("cost", x.cost(), 20);
            due("pages 0, 1, 3", nextCheckpoint(x, 0), 4);
        }
        due("stopped for 1", one.info(0) + one.info(9), 6 + 1);
        due("stopped for 3", three.info(0) + three.info(9), 6 + 3);
    }

    private static void places() {
        sentence("1: THE TABLE has PLACES 0 .. 239");
        BuiltIndex x = tableOf(239, 1);
        due("last but one", x.row(238, true), 1238);
        dueArgument("last, without a row", () -> x.row(239, true));
        due("last", x.add(239, 1239), 239);
        due("row of the last", x.row(239, true), 1239);
        due("no more", x.add(240, 0), ROOM);
        due("one above", x.change(240, 1, 1), UNKNOWN);
        due("one below", x.change(-1, 1, 1), UNKNOWN);
        due("last", x.change(239, 1, 1), 1);
        due("first", x.change(0, 1, 1), 1);
        due("remove one above", x.remove(240), UNKNOWN);
        due("remove last", x.remove(239), 1);
        due("remove one below", x.remove(-1), UNKNOWN);
        due("remove first", x.remove(0), 1);
        due("rows", x.rows(), 238);
    }

    private static void placesOfAPage() {
        sentence("1: twelve of them a PAGE");
        int[][] written = {
            {0}, {11}, {0, 11}, {11, 12}, {12, 23}, {23, 24}, {227, 228}, {228, 239}, {239},
        };
        int[] pages = {1, 1, 1, 2, 1, 2, 2, 1, 1};
        for (int i = 0; i < written.length; i++) {
            due("pages of case " + i, nextCheckpoint(cleanTable(240), written[i]), pages[i] + 1);
        }
    }

    private static void pagesOfTheScan() {
        sentence("1: twelve of them a PAGE", "as the scan picks them");
        int[] rows = {0, 1, 11, 12, 13, 23};
        for (int n : rows) {
            BuiltIndex x = tableOf(n, 1);
            due("build", x.build(false), 1);
            due("page 0", x.step(1), 1);
            due("picked of " + n, x.info(4), Math.min(n, 12));
            due("page 1", x.step(1), 1);
            due("picked of " + n, x.info(4), n);
        }
        BuiltIndex last = tableOf(240, 1);
        removeRows(last, 0, 227);
        due("build", last.build(false), 1);
        due("till page 17", last.step(18), 1);
        due("places 204 .. 215", last.info(4), 0);
        due("page 18", last.step(1), 1);
        due("place 227 alone", last.info(4), 1);
        int all = last.blocks(0);
        due("page 19", last.step(1), 2);
        due("thirteen in the run", last.blocks(0), all + 2);
        due("one run", last.info(3), 1);
        due("catch", last.step(1 + 4), 4);
        due("entries", last.info(8), 13);
    }

    private static void keysAndValues() {
        sentence("1: a place has a ROW (a KEY and a VALUE, ints) or none");
        int[] ints = {MAX, 1, MIN, 0, MIN + 1, -1, MAX - 1};
        int[] sorted = {2, 4, 5, 3, 1, 6, 0};
        BuiltIndex x = new BuiltIndex();
        for (int i = 0; i < ints.length; i++) {
            due("add", x.add(ints[i], ints[ints.length - 1 - i]), i);
        }
        for (int i = 0; i < ints.length; i++) {
            due("key", x.row(i, false), ints[i]);
            due("value", x.row(i, true), ints[ints.length - 1 - i]);
            due("by the table", x.ask(ints[i], ints[i]), 1);
            dueAnswers(x, i);
        }
        dueArgument("none", () -> x.row(7, false));
        due("build", x.build(true), 1);
        due("step", x.step(1000), 5);
        for (int p = 0; p < sorted.length; p++) {
            int place = sorted[p];
            due("key " + p, x.entry(p, false), ints[place]);
            due("place " + p, x.entry(p, true), place);
            due("by the index", x.ask(ints[place], ints[place]), 1);
            dueAnswers(x, place);
            due("duplicate", x.add(ints[place], 0), DUPLICATE);
        }
        for (int place : sorted) {
            due("remove", x.remove(place), 1);
            due("audit", x.audit(), 0);
        }
        due("rows", x.rows(), 0);
    }

    private static void oneBlockForAWrite() {
        sentence("1: a write that is not refused writes one BLOCK down before it is done");
        for (int state = 0; state <= 6; state++) {
            BuiltIndex x = inState(state);
            int all = x.blocks(0);
            int since = x.blocks(3);
            due("add", x.add(40, 0), 3);
            dueBlocks(x, all + 1, x.blocks(1), x.blocks(2), since + 1);
            due("change", x.change(3, 41, 1), 1);
            dueBlocks(x, all + 2, x.blocks(1), x.blocks(2), since + 2);
            due("value alone", x.change(3, 41, 2), 1);
            dueBlocks(x, all + 3, x.blocks(1), x.blocks(2), since + 3);
            due("as it was", x.change(3, 41, 2), 1);
            dueBlocks(x, all + 4, x.blocks(1), x.blocks(2), since + 4);
            due("remove", x.remove(3), 1);
            dueBlocks(x, all + 5, x.blocks(1), x.blocks(2), since + 5);
        }
    }

    private static void noBlockForARefusedWrite() {
        sentence("1: a write that is not refused writes one BLOCK down before it is done",
            "a refused one writes none, and no CHECKPOINT");
        BuiltIndex full = tableOf(240, 1);
        due("thirty since", full.blocks(3), 30);
        int all = full.blocks(0);
        due("cut", full.cut(0, 0), 1);
        due("room", full.add(1, 1), ROOM);
        due("unknown", full.change(240, 1, 1), UNKNOWN);
        due("unknown", full.remove(240), UNKNOWN);
        dueBlocks(full, all, 28, 7, 30);
        due("power goes at the first that is not refused", full.remove(3), LOST);
        dueBlocks(full, all + 1, 28, 7, 30);

        BuiltIndex u = published(3, 10, true);
        for (int i = 0; i < 30; i++) {
            due("change", u.change(0, 0, i), 1);
        }
        dueBlocks(u, 3 + 1 + 1 + 3 + 30, 3, 1, 30);
        due("cut", u.cut(0, 0), 1);
        due("duplicate", u.add(20, 1), DUPLICATE);
        due("duplicate", u.change(0, 20, 1), DUPLICATE);
        due("no row", u.change(3, 20, 1), UNKNOWN);
        due("no row", u.remove(3), UNKNOWN);
        dueBlocks(u, 38, 3, 1, 30);
        due("power goes at the first that is not refused", u.add(21, 1), LOST);
        dueBlocks(u, 39, 3, 1, 30);
    }

    private static void thirtyWrites() {
        sentence("1: Before it, if 30 were written down since the latest CHECKPOINT (none at first:"
            + " since the beginning), a CHECKPOINT is made");
        BuiltIndex x = new BuiltIndex();
        dueBlocks(x, 0, 0, 0, 0);
        addRows(x, 0, 29, 1);
        dueBlocks(x, 29, 0, 0, 29);
        due("thirtieth", x.add(29, 0), 29);
        dueBlocks(x, 30, 0, 0, 30);
        due("one more", x.add(30, 0), 30);
        dueBlocks(x, 35, 4, 1, 1);
        addRows(x, 31, 59, 1);
        dueBlocks(x, 63, 4, 1, 29);
        due("thirtieth since", x.add(59, 0), 59);
        dueBlocks(x, 64, 4, 1, 30);
        due("one more", x.add(60, 0), 60);
        dueBlocks(x, 69, 8, 2, 1);

        BuiltIndex mixed = new BuiltIndex();
        for (int i = 0; i < 10; i++) {
            due("add", mixed.add(i, i), 0);
            due("change", mixed.change(0, i, i + 1), 1);
            due("refused", mixed.remove(1), UNKNOWN);
            due("remove", mixed.remove(0), 1);
        }
        dueBlocks(mixed, 30, 0, 0, 30);
        due("one more", mixed.add(1, 1), 0);
        dueBlocks(mixed, 33, 2, 1, 1);
    }

    private static void thirtyAfterOtherCheckpoints() {
        sentence("1: if 30 were written down since the latest CHECKPOINT", "one that publishes or drops counts, too");
        BuiltIndex x = tableOf(29, 1);
        due("build", x.build(false), 1);
        due("till catch", x.step(20 + 2 + 6), 4);
        dueBlocks(x, 29 + 4 + 4 + 6, 0, 0, 29);
        due("publish", x.step(1), 5);
        // three pages, six nodes, one more
        dueBlocks(x, 43 + 10, 10, 1, 0);
        for (int i = 0; i < 30; i++) {
            due("change", x.change(0, 0, i), 1);
        }
        dueBlocks(x, 83, 10, 1, 30);
        due("drop", x.drop(), 5);
        dueBlocks(x, 85, 12, 2, 0);
        due("no index", x.drop(), 0);
        dueBlocks(x, 85, 12, 2, 0);
        due("change", x.change(0, 0, 0), 1);
        dueBlocks(x, 86, 12, 2, 1);
        due("build", x.build(false), 1);
        due("drop of what is built", x.drop(), 1);
        dueBlocks(x, 86, 12, 2, 1);
    }

    private static void pagesOfACheckpoint() {
        sentence("1: a block for each page of which a place was written since the latest one");
        int[] allPages = new int[20];
        int[] butOne = new int[19];
        for (int page = 0; page < 20; page++) {
            allPages[page] = 12 * page + page % 12;
            butOne[page % 19] = 12 * (page % 19) + 11;
        }
        due("twenty pages", nextCheckpoint(cleanTable(240), allPages), 21);
        due("nineteen pages", nextCheckpoint(cleanTable(240), butOne), 20);

        BuiltIndex x = tableOf(31, 1);
        due("pages 0, 1, 2", x.blocks(1), 4);
        due("page 2 by the write behind it, and 0", nextCheckpoint(x, 0), 3);
        due("page 0 by the write behind it", nextCheckpoint(x, 12), 3);
        due("page 1 alone", nextCheckpoint(x, 12), 2);

        BuiltIndex y = cleanTable(36);
        due("by remove", y.remove(35), 1);
        due("by remove", y.remove(23), 1);
        due("by add", y.add(5, 5), 23);
        due("pages 0, 1, 2", nextCheckpoint(y, 0), 4);

        BuiltIndex z = cleanTable(12);
        due("add", z.add(1, 1), 12);
        due("no row is left in page 1", z.remove(12), 1);
        due("pages 0, 1", nextCheckpoint(z, 0), 3);

        BuiltIndex lost = cleanTable(36);
        due("cut", lost.cut(0, 63), 1);
        due("lost", lost.change(35, 1, 1), LOST);
        due("start", lost.start(), 36);
        due("page 0 alone", nextCheckpoint(lost, 0), 2);
    }

    /** 48 rows: eight leaves of six, two nodes, a root; its checkpoint was made just now. */
    private static BuiltIndex eightLeaves() {
        BuiltIndex x = published(48, 10, false);
        dueLeaves(x, 6, 6, 6, 6, 6, 6, 6, 6);
        dueTree(x, 11, 3, 48);
        return x;
    }

    private static void nodesOfACheckpoint() {
        sentence("1: a block for each NODE of a published index that is new since then, or to which"
            + " something came or from which something went");
        due("none: a page, one more", nextCheckpoint(eightLeaves(), 0), 2);

        BuiltIndex comes = eightLeaves();
        due("add", comes.add(5, 0), 48);
        due("a leaf, pages 0 and 4", nextCheckpoint(comes, 0), 4);
        due("not again", nextCheckpoint(comes, 0), 2);

        BuiltIndex goes = eightLeaves();
        due("remove", goes.remove(47), 1);
        due("a leaf, pages 0 and 3", nextCheckpoint(goes, 0), 4);

        BuiltIndex both = eightLeaves();
        due("add", both.add(5, 0), 48);
        due("remove", both.remove(48), 1);
        due("a leaf that is as it was", nextCheckpoint(both, 0), 4);

        BuiltIndex within = eightLeaves();
        due("change in one leaf", within.change(1, 11, 0), 1);
        due("a leaf, page 0", nextCheckpoint(within, 0), 3);

        BuiltIndex across = eightLeaves();
        due("change to another leaf", across.change(1, 475, 0), 1);
        due("two leaves, page 0", nextCheckpoint(across, 0), 4);

        BuiltIndex eight = eightLeaves();
        due("add", eight.add(51, 0), 48);
        due("add", eight.add(52, 0), 49);
        due("a leaf of eight, pages 0 and 4", nextCheckpoint(eight, 0), 4);
        due("nine", eight.add(53, 0), 50);
        due("two leaves, the node over them, pages 0 and 4", nextCheckpoint(eight, 0), 6);

        BuiltIndex nodes = eightLeaves();
        for (int i = 0; i < 9; i++) {
            due("add", nodes.add(60 * (i / 3) + 51 + i % 3, 0), 48 + i);
        }
        dueTree(nodes, 15, 3, 57);
        due("six leaves, two nodes, the root, pages 0 and 4", nextCheckpoint(nodes, 0), 12);

        BuiltIndex root = published(6, 10, false);
        due("add", root.add(51, 0), 6);
        due("add", root.add(52, 0), 7);
        due("a leaf, page 0", nextCheckpoint(root, 0), 3);
        due("nine", root.add(53, 0), 8);
        dueTree(root, 3, 2, 9);
        due("two leaves, a root, page 0", nextCheckpoint(root, 0), 5);
    }

    private static void nodesThatAreNoMore() {
        sentence("1: (none for those that are no more)");
        BuiltIndex x = eightLeaves();
        removeRows(x, 42, 47);
        due("a leaf of one, pages 0 and 3", nextCheckpoint(x, 0), 4);
        due("the leaf goes", x.remove(47), 1);
        due("the node over it, pages 0 and 3", nextCheckpoint(x, 0), 4);

        BuiltIndex y = eightLeaves();
        removeRows(y, 42, 48);
        due("the node over it, pages 0 and 3", nextCheckpoint(y, 0), 4);

        BuiltIndex isNew = eightLeaves();
        for (int i = 0; i < 3; i++) {
            due("add", isNew.add(51 + i, 0), 48 + i);
        }
        due("of the new leaf", isNew.remove(4), 1);
        due("of the new leaf", isNew.remove(5), 1);
        removeRows(isNew, 48, 51);
        dueTree(isNew, 11, 3, 46);
        due("the left leaf, the node over it, pages 0 and 4", nextCheckpoint(isNew, 0), 5);

        BuiltIndex root = published(7, 10, false);
        due("the leaf and the root go", root.remove(6), 1);
        dueTree(root, 1, 1, 6);
        due("page 0", nextCheckpoint(root, 0), 2);
    }

    private static void nodesOfWhatIsNotPublished() {
        sentence("1: a block for each NODE of a published index", "of no other one");
        BuiltIndex x = tableOf(7, 10);
        due("build", x.build(false), 1);
        due("one leaf is made", x.step(22), 3);
        due("page 0", nextCheckpoint(x, 0), 2);
        due("catch", x.step(2), 4);
        due("add", x.add(5, 0), 7);
        due("an entry comes", x.step(1), 4);
        due("page 0", nextCheckpoint(x, 0), 2);
        due("published", x.step(1), 5);
        due("page 0", nextCheckpoint(x, 0), 2);

        BuiltIndex stopped = inState(6);
        due("page 0", nextCheckpoint(stopped, 0), 2);
    }

    private static void oneMoreBlock() {
        sentence("1: and one more");
        BuiltIndex x = new BuiltIndex();
        due("build", x.build(false), 1);
        due("till catch", x.step(22), 4);
        dueBlocks(x, 1, 0, 0, 0);
        due("published", x.step(1), 5);
        dueBlocks(x, 3, 2, 1, 0);
        due("drop", x.drop(), 5);
        dueBlocks(x, 4, 3, 2, 0);
    }

    // ======== 1 THE TABLE: power

    private static void wordsOfATornBlock() {
        sentence("1: of that block, which has 64 words, just so many are the new ones");
        int[] tears = {0, 1, 31, 32, 62, 63};
        for (int tear : tears) {
            BuiltIndex x = inState(5);
            due("cut", x.cut(0, tear), 1);
            due("change", x.change(1, 5, 5), LOST);
            due("start", x.start(), 3);
            due("key", x.row(1, false), 20);
            due("value", x.row(1, true), 200);
            dueEntries(x, 10, 0, 20, 1, 30, 2);
        }
        BuiltIndex x = inState(5);
        due("all words would be new", x.cut(0, 64), OUTSIDE);
        due("no power goes", x.change(1, 5, 5), 1);
    }

    private static void lostWrites() {
        sentence("1: Then it is DOWN: the call answers LOST: a write is not done");
        for (int state = 0; state <= 6; state++) {
            int after = state == 5 ? 5 : 0;
            BuiltIndex x = inState(state);
            due("cut", x.cut(0, 5), 1);
            due("add", x.add(40, 400), LOST);
            due("down", x.rows(), DOWN);
            due("start", x.start(), 3);
            dueArgument("not done", () -> x.row(3, false));
            due("state", x.info(0), after);

            BuiltIndex y = inState(state);
            due("cut", y.cut(0, 5), 1);
            due("change", y.change(2, 40, 400), LOST);
            due("down", y.rows(), DOWN);
            due("start", y.start(), 3);
            due("not done", y.row(2, false), 30);
            due("not done", y.row(2, true), 300);
            due("state", y.info(0), after);

            BuiltIndex z = inState(state);
            due("cut", z.cut(0, 5), 1);
            due("remove", z.remove(2), LOST);
            due("down", z.rows(), DOWN);
            due("start", z.start(), 3);
            due("not done", z.row(2, false), 30);
            due("state", z.info(0), after);
            due("audit", z.audit(), 0);
        }
    }

    private static void lostCheckpoints() {
        sentence("1: a CHECKPOINT is not made (so all that it would have written is written by the next one)");
        // three pages and one more, then the block of the write itself
        for (int at = 0; at <= 5; at++) {
            BuiltIndex x = tableOf(30, 1);
            due("cut", x.cut(at, 0), 1);
            boolean made = at >= 4;
            due("change", x.change(0, 7, 7), at == 5 ? 1 : LOST);
            dueBlocks(x, 30 + Math.min(at + 1, 5), made ? 4 : 0, made ? 1 : 0, made ? at - 4 : 30);
            if (at == 5) {
                continue;
            }
            due("start", x.start(), 30);
            due("not done", x.row(0, false), 0);
            due("change", x.change(29, 7, 7), 1);
            dueBlocks(x, 31 + at + (made ? 1 : 5), 4, 1, 1);
        }
    }

    private static void lostBuilding() {
        sentence("1: what is being built is gone");
        int[] steps = {0, 1, 2, 19, 20, 21, 22, 23, 24, 27, 28};
        int[] states = {1, 1, 1, 1, 2, 2, 3, 3, 3, 3, 4};
        for (int i = 0; i < steps.length; i++) {
            BuiltIndex x = tableOf(30, 1);
            due("build", x.build(true), 1);
            if (steps[i] > 0) {
                due("step", x.step(steps[i]), states[i]);
                due("a write that is logged", x.change(0, 77, 0), 1);
            }
            lose(x);
            due("start", x.start(), 30);
            dueNoIndex(x);
            due("nothing to do", x.step(1000), 0);
            due("by places", x.ask(MIN, MAX) + x.cost(), 30 + 20);
            due("build", x.build(false), 1);
            dueInfo(x, 1, 0, 0, 0, 0, 0, 0, 0, 0, 0, NONE, NONE);
            due("step", x.step(1000), 5);
            dueTree(x, 6, 2, 30);
        }
    }

    private static void lostInSteps() {
        sentence("1: what is being built is gone, nothing is published");
        // 49 rows: runs of 24, 24, 1; merged 48 and 49; nine leaves, two nodes, a root; then five
        // pages 2, 3, 4 (written since the checkpoint of 30), twelve nodes and one more
        int load = 3 + 3 + 1 + 6 + 7;
        int publish = load + 12;
        int all = publish + 3 + 12 + 1;
        int[] edges = {0, 2, 3, 5, 6, 7, 12, 13, 19, load, publish - 1, publish, all - 1};
        for (int at : edges) {
            BuiltIndex x = tableOf(49, 1);
            int before = x.blocks(0);
            due("build", x.build(true), 1);
            due("cut", x.cut(at, 63), 1);
            due("lost at " + at, x.step(1000), LOST);
            dueBlocks(x, before + at + 1, 4, 1, 19);
            due("start", x.start(), 49);
            dueNoIndex(x);
            due("by places", x.ask(0, 9) + x.cost(), 10 + 20);
            due("no duplicate", x.add(7, 7), 49);
        }
        BuiltIndex x = tableOf(49, 1);
        due("build", x.build(true), 1);
        due("cut", x.cut(all, 63), 1);
        due("not one of its blocks", x.step(1000), 5);
        due("the block behind", x.add(100, 0), LOST);
    }

    private static void whatIsBackAfterALoss() {
        sentence("1: start(): the table and what was published are those of all writes that were done;"
            + " what was built, and its log, are gone");
        BuiltIndex x = published(8, 10, true);
        due("done", x.add(5, 5), 8);
        due("done", x.change(0, 75, 7), 1);
        due("done", x.remove(3), 1);
        int nodes = x.info(6);
        due("cut", x.cut(0, 63), 1);
        due("not done", x.change(1, 11, 1), LOST);
        due("start", x.start(), 8);
        dueEntries(x, 5, 8, 10, 1, 20, 2, 40, 4, 50, 5, 60, 6, 70, 7, 75, 0);
        dueLeaves(x, 5, 3);
        due("nodes", x.info(6), nodes);
        due("unique still", x.add(75, 0), DUPLICATE);
        due("its own key is free", x.add(11, 0), 3);
        due("audit", x.audit(), 0);

        BuiltIndex b = inState(4);
        due("logged", b.change(0, 11, 0), 1);
        due("log", b.info(5), 2);
        lose(b);
        due("start", b.start(), 3);
        dueNoIndex(b);
        due("the write was done", b.row(0, false), 11);
    }

    private static void nextCheckpointAfterALoss() {
        sentence("1: the next CHECKPOINT is due as if there had been no loss, with the blocks that it"
            + " would have had");
        for (int writes = 28; writes <= 30; writes++) {
            BuiltIndex x = tableOf(writes, 1);
            lose(x);
            due("start", x.start(), writes);
            due("writes since", x.blocks(3), writes);
            due("pages 0, 1, 2 and one more", nextCheckpoint(x, 0), 4);
        }
        BuiltIndex p = eightLeaves();
        due("a leaf of page 4", p.add(5, 0), 48);
        due("a leaf of page 3", p.remove(47), 1);
        lose(p);
        due("start", p.start(), 48);
        due("writes since", p.blocks(3), 2);
        due("two leaves, pages 0, 3, 4, one more", nextCheckpoint(p, 0), 6);

        BuiltIndex twice = tableOf(30, 1);
        for (int at = 0; at < 4; at++) {
            due("cut", twice.cut(at, 1), 1);
            due("lost", twice.remove(0), LOST);
            due("start", twice.start(), 30);
            due("writes since", twice.blocks(3), 30);
        }
        due("pages 0, 1, 2 and one more", nextCheckpoint(twice, 0), 4);
    }

    private static void stateAfterALoss() {
        sentence("1: The STATE is 5 if an index is published (still, by these writes), else 0");
        int[] after = {0, 0, 0, 0, 0, 5, 0};
        for (int state = 0; state <= 6; state++) {
            BuiltIndex x = inState(state);
            lose(x);
            due("start", x.start(), 3);
            due("state after " + state, x.info(0), after[state]);
            due("why", x.info(9), 0);
            due("build", x.build(false), state == 5 ? STATE : 1);
        }
        BuiltIndex dropped = inState(5);
        due("drop", dropped.drop(), 5);
        lose(dropped);
        due("start", dropped.start(), 3);
        dueNoIndex(dropped);

        for (int rows = 200; rows <= 201; rows++) {
            BuiltIndex x = published(0, 0, false);
            addRows(x, 0, rows, 1);
            lose(x);
            due("start", x.start(), rows);
            due("published still, by 200 writes; no more by 201", x.info(0), rows == 200 ? 5 : 0);
            due("nodes", x.info(6), rows == 200 ? 64 : 0);
        }
    }

    // ======== 2 BUILDING: scan and merge

    private static void orderOfEntries() {
        sentence("2: ENTRIES are a key and a place, in order of keys, then of places");
        BuiltIndex x = new BuiltIndex();
        int[] keys = {5, 4, 5, 6, 4, 5};
        for (int key : keys) {
            x.add(key, 0);
        }
        due("build", x.build(false), 1);
        due("step", x.step(1000), 5);
        dueEntries(x, 4, 1, 4, 4, 5, 0, 5, 2, 5, 5, 6, 3);
        due("last of its key", x.add(4, 0), 6);
        due("change", x.change(3, 5, 0), 1);
        dueEntries(x, 4, 1, 4, 4, 4, 6, 5, 0, 5, 2, 5, 3, 5, 5);

        BuiltIndex one = published(240, 0, false);
        for (int p = 0; p < 240; p += 17) {
            due("place", one.entry(p, true), p);
        }
        due("last place", one.entry(239, true), 239);
    }

    private static void pageByPage() {
        sentence("2 SCAN: the entries of the next page (0 first) are PICKED");
        BuiltIndex x = tableOf(25, 1);
        removeRows(x, 12, 24);
        due("build", x.build(false), 1);
        dueInfo(x, 1, 0, 0, 0, 0);
        due("page 0", x.step(1), 1);
        dueInfo(x, 1, 0, 1, 0, 12);
        due("page 1 without rows", x.step(1), 1);
        dueInfo(x, 1, 0, 2, 0, 12);
        due("page 2", x.step(1), 1);
        dueInfo(x, 1, 0, 3, 0, 13);
    }

    /** The first page has 11 rows, the second 12, the third so many: 23 and those. */
    private static BuiltIndex twentyThreeAnd(int more) {
        BuiltIndex x = tableOf(24 + more, 1);
        due("remove", x.remove(3), 1);
        due("build", x.build(false), 1);
        due("two pages", x.step(2), 1);
        dueInfo(x, 1, 0, 2, 0, 23);
        return x;
    }

    private static void enoughForARun() {
        sentence("2 SCAN: if 24 or more are picked .. they become a RUN, sorted");
        int[] more = {0, 1, 2, 12};
        for (int n : more) {
            BuiltIndex x = twentyThreeAnd(n);
            due("third page", x.step(1), 1);
            dueInfo(x, 1, 0, 3, n >= 1 ? 1 : 0, n >= 1 ? 0 : 23);
        }
        int[] rows = {23, 24, 25};
        for (int n : rows) {
            BuiltIndex x = tableOf(n, -1);
            due("build", x.build(false), 1);
            due("two pages", x.step(2), 1);
            dueInfo(x, 1, 0, 2, n >= 24 ? 1 : 0, n >= 24 ? 0 : 23);
            due("third page", x.step(1), 1);
            dueInfo(x, 1, 0, 3, n >= 24 ? 1 : 0, n == 24 ? 0 : n == 23 ? 23 : 1);
            due("step", x.step(1000), 5);
            for (int p = 0; p < n; p++) {
                due("sorted", x.entry(p, true), n - 1 - p);
            }
        }
    }

    private static void lastPageOfTheScan() {
        sentence("2 SCAN: or it was the last page and some are");
        int[] rows = {0, 1, 23, 24, 25, 47, 48, 49};
        int[] runs = {0, 1, 1, 1, 2, 2, 2, 3};
        int[] before = {0, 0, 0, 1, 1, 1, 2, 2};
        for (int i = 0; i < rows.length; i++) {
            BuiltIndex x = tableOf(rows[i], 1);
            due("build", x.build(false), 1);
            due("last but one", x.step(19), 1);
            dueInfo(x, 1, 0, 19, before[i], rows[i] - 24 * before[i]);
            due("last page", x.step(1), 2);
            dueInfo(x, 2, 0, 20, runs[i], 0);
        }
        BuiltIndex full = tableOf(240, 1);
        due("build", full.build(false), 1);
        due("last but one", full.step(19), 1);
        dueInfo(full, 1, 0, 19, 9, 12);
        due("24 with the last page: one run", full.step(1), 2);
        dueInfo(full, 2, 0, 20, 10, 0);
    }

    private static void blocksOfARun() {
        sentence("2 SCAN: a block for each eight of them (the last ones may be fewer)");
        int[] rows = {0, 1, 7, 8, 9, 15, 16, 17, 23};
        int[] blocks = {0, 1, 1, 1, 2, 2, 2, 3, 3};
        for (int i = 0; i < rows.length; i++) {
            BuiltIndex x = tableOf(rows[i], 1);
            due("build", x.build(false), 1);
            due("last but one", x.step(19), 1);
            due("none yet", x.blocks(0), rows[i]);
            due("last page", x.step(1), 2);
            due("blocks of " + rows[i], x.blocks(0), rows[i] + blocks[i]);
        }
        int[] more = {1, 2, 8, 9, 10, 12};
        int[] due = {3, 4, 4, 4, 5, 5};
        for (int i = 0; i < more.length; i++) {
            BuiltIndex x = twentyThreeAnd(more[i]);
            int all = x.blocks(0);
            due("third page", x.step(1), 1);
            due("blocks of " + (23 + more[i]), x.blocks(0), all + due[i]);
        }
    }

    private static void behindTheLastPage() {
        sentence("2 SCAN: behind the last page it is MERGE");
        BuiltIndex x = tableOf(3, 1);
        due("build", x.build(false), 1);
        for (int page = 1; page < 20; page++) {
            due("page", x.step(1), 1);
            due("next page", x.info(2), page);
        }
        due("last page", x.step(1), 2);
        due("next page", x.info(2), 20);
        due("state", x.info(0), 2);
        due("load", x.step(1), 3);
    }

    private static void twoOrMoreRuns() {
        sentence("2 MERGE: two or more runs: the first two become one .. else it is LOAD");
        int[] rows = {0, 1, 24, 25, 48, 49};
        int[] runs = {0, 1, 1, 2, 2, 3};
        for (int i = 0; i < rows.length; i++) {
            BuiltIndex x = tableOf(rows[i], 1);
            due("build", x.build(false), 1);
            due("scan", x.step(20), 2);
            due("runs", x.info(3), runs[i]);
            for (int left = runs[i] - 1; left >= 1; left--) {
                due("merge", x.step(1), 2);
                due("runs", x.info(3), left);
            }
            int all = x.blocks(0);
            due("load", x.step(1), 3);
            due("runs", x.info(3), Math.min(1, runs[i]));
            due("no block, no node", x.blocks(0) + x.info(6), all);
        }
    }

    private static void behindAllOtherRuns() {
        sentence("2 MERGE: the first two become one, behind all others");
        BuiltIndex x = tableOf(240, -1);
        due("build", x.build(false), 1);
        due("scan", x.step(20), 2);
        // ten of 24; five of 48; 48 48 48 96; 48 96 96; 96 144; 240
        int[] blocks = {6, 6, 6, 6, 6, 12, 12, 18, 30};
        for (int i = 0; i < blocks.length; i++) {
            int all = x.blocks(0);
            due("merge", x.step(1), 2);
            due("blocks of merge " + i, x.blocks(0) - all, blocks[i]);
            due("runs", x.info(3), 9 - i);
        }
        due("load", x.step(1), 3);
        due("all nodes", x.step(50), 4);
        for (int p = 0; p < 240; p += 13) {
            due("key", x.entry(p, false), p - 239);
        }
    }

    private static void blocksOfAMergedRun() {
        sentence("2 MERGE: a block for each eight of its entries, likewise");
        int[] rows = {25, 31, 32, 33, 39, 40, 41, 47, 48};
        int[] blocks = {4, 4, 4, 5, 5, 5, 6, 6, 6};
        for (int i = 0; i < rows.length; i++) {
            BuiltIndex x = tableOf(rows[i], 1);
            due("build", x.build(false), 1);
            due("scan", x.step(20), 2);
            int all = x.blocks(0);
            due("merge", x.step(1), 2);
            due("blocks of " + rows[i], x.blocks(0) - all, blocks[i]);
        }
    }

    // ======== 2 BUILDING: load and catch

    private static BuiltIndex inLoad(int rows) {
        BuiltIndex x = tableOf(rows, 3);
        due("build", x.build(false), 1);
        int runs = (rows + 23) / 24;
        due("scan and merge", x.step(20 + Math.max(0, runs - 1) + 1), 3);
        return x;
    }

    private static void leavesOfSix() {
        sentence("2 LOAD: LEAVES of the next six entries (fewer at the end; without entries one empty leaf)");
        int[] rows = {0, 1, 5, 6, 7, 11, 12, 13, 18};
        int[] leaves = {1, 1, 1, 1, 2, 2, 2, 3, 3};
        int[] last = {0, 1, 5, 6, 1, 5, 6, 1, 6};
        for (int i = 0; i < rows.length; i++) {
            BuiltIndex x = inLoad(rows[i]);
            int nodes = leaves[i] == 1 ? 1 : leaves[i] + 1;
            int all = x.blocks(0);
            for (int made = 1; made <= nodes; made++) {
                due("a node a step", x.step(1), made < nodes ? 3 : 4);
                due("nodes", x.info(6), made);
                due("a block each", x.blocks(0), all + made);
            }
            dueTree(x, nodes, leaves[i] == 1 ? 1 : 2, rows[i]);
            for (int p = 0; p < rows[i]; p++) {
                due("leaf of " + p, x.leaf(p), p / 6 == leaves[i] - 1 ? last[i] : 6);
            }
            due("none behind", x.leaf(rows[i]), UNKNOWN);
        }
    }

    private static void nodesOverSix() {
        sentence("2 LOAD: then nodes over the next six of the nodes of the row made before (from the"
            + " left), row by row");
        int[] rows = {35, 36, 37, 72, 73, 215, 216, 217, 240};
        int[] nodes = {7, 7, 10, 15, 17, 43, 43, 47, 50};
        int[] deep = {2, 2, 3, 3, 3, 3, 3, 4, 4};
        for (int i = 0; i < rows.length; i++) {
            BuiltIndex x = inLoad(rows[i]);
            int all = x.blocks(0);
            due("all but the root", x.step(nodes[i] - 1), 3);
            due("no tree yet", x.info(7) + x.info(8), 0);
            due("the root", x.step(1), 4);
            due("blocks", x.blocks(0), all + nodes[i]);
            dueTree(x, nodes[i], deep[i], rows[i]);
        }
        // from the left: of seven leaves six are under the first node, so that it is divided first
        BuiltIndex left = published(42, 10, false);
        dueTree(left, 10, 3, 42);
        for (int i = 0; i < 9; i++) {
            due("add", left.add(60 * (i / 3) + 51 + i % 3, 0), 42 + i);
            dueTree(left, i < 2 ? 10 : i < 5 ? 11 : i < 8 ? 12 : 14, 3, 43 + i);
        }
        BuiltIndex right = published(42, 10, false);
        for (int i = 0; i < 9; i++) {
            due("add", right.add(411 + i, 0), 42 + i);
        }
        // the one leaf of the second node: nine, then two times four more
        dueTree(right, 12, 3, 51);
    }

    private static void aloneInItsRow() {
        sentence("2 LOAD: that which is alone in its row is the ROOT, and it is CATCH");
        int[] rows = {0, 6, 7, 36, 37};
        int[] steps = {1, 1, 3, 7, 10};
        for (int i = 0; i < rows.length; i++) {
            BuiltIndex x = inLoad(rows[i]);
            if (steps[i] > 1) {
                due("not yet", x.step(steps[i] - 1), 3);
            }
            due("root", x.step(1), 4);
            due("not published", x.info(0), 4);
            due("published", x.step(1), 5);
        }
    }

    private static void firstOfTheLog() {
        sentence("2 CATCH: the first of the LOG BESIDE: an entry comes, or goes; it is out of the log."
            + " If that is empty .. else it is PUBLISHED");
        BuiltIndex empty = inState(4);
        due("log", empty.info(5), 0);
        due("published", empty.step(1), 5);

        BuiltIndex one = inState(4);
        due("remove", one.remove(1), 1);
        due("log", one.info(5), 1);
        dueEntries(one, 10, 0, 20, 1, 30, 2);
        due("it goes", one.step(1), 4);
        due("log", one.info(5), 0);
        dueEntries(one, 10, 0, 30, 2);
        due("published", one.step(1), 5);

        BuiltIndex two = inState(4);
        due("change", two.change(0, 40, 0), 1);
        due("log", two.info(5), 2);
        due("the old one goes", two.step(1), 4);
        due("log", two.info(5), 1);
        dueEntries(two, 20, 1, 30, 2);
        due("the new one comes", two.step(1), 4);
        due("log", two.info(5), 0);
        dueEntries(two, 20, 1, 30, 2, 40, 0);
        int all = two.blocks(0);
        due("published", two.step(1), 5);
        due("a page, a node, one more", two.blocks(0) - all, 3);

        BuiltIndex most = inState(4);
        for (int i = 0; i < 20; i++) {
            due("change", most.change(0, 100 + i, 0), 1);
        }
        all = most.blocks(0);
        due("log", most.info(5), 40);
        due("39 of them", most.step(39), 4);
        due("log", most.info(5), 1);
        due("the last", most.step(1), 4);
        due("no block", most.blocks(0), all);
        dueEntries(most, 20, 1, 30, 2, 119, 0);
        due("published", most.step(1), 5);
    }

    private static void twoRowsWithOneKey() {
        sentence("2 CATCH: two rows with one key, if the index is unique: STOPPED for 3");
        for (int other = 19; other <= 21; other++) {
            for (int unique = 0; unique <= 1; unique++) {
                BuiltIndex x = new BuiltIndex();
                x.add(20, 0);
                x.add(other, 0);
                due("build", x.build(unique == 1), 1);
                due("till catch", x.step(22), 4);
                boolean stops = other == 20 && unique == 1;
                int all = x.blocks(0);
                due("step", x.step(1), stops ? 6 : 5);
                due("why", x.info(9), stops ? 3 : 0);
                due("first", x.info(10), stops ? 0 : NONE);
                due("second", x.info(11), stops ? 1 : NONE);
                due("blocks", x.blocks(0) - all, stops ? 0 : 3);
            }
        }
        BuiltIndex gone = new BuiltIndex();
        gone.add(20, 0);
        gone.add(20, 0);
        due("build", gone.build(true), 1);
        due("till catch", gone.step(22), 4);
        due("the second becomes another", gone.change(1, 21, 0), 1);
        due("published", gone.step(3), 5);

        BuiltIndex late = new BuiltIndex();
        late.add(20, 0);
        late.add(21, 0);
        due("build", late.build(true), 1);
        due("till catch", late.step(22), 4);
        due("not refused: it is not published", late.change(0, 21, 0), 1);
        due("log", late.step(2), 4);
        due("stopped", late.step(1), 6);
        dueInfo(late, 6, 1, 0, 0, 0, 0, 0, 0, 0, 3, 0, 1);

        BuiltIndex far = new BuiltIndex();
        far.add(MIN, 0);
        far.add(MAX, 0);
        far.add(MAX, 0);
        due("build", far.build(true), 1);
        due("the last two", far.step(1000), 6);
        due("first", far.info(10), 1);
        due("second", far.info(11), 2);

        // the two are the last of a leaf and the first of the next one
        BuiltIndex across = tableOf(12, 10);
        due("change", across.change(6, 50, 0), 1);
        due("build", across.build(true), 1);
        due("stopped", across.step(1000), 6);
        due("first", across.info(10), 5);
        due("second", across.info(11), 6);
    }

    private static void checkpointWithAllNodes() {
        sentence("2 CATCH: else it is PUBLISHED: a CHECKPOINT with all its nodes");
        int[] rows = {0, 1, 6, 7, 12, 13, 30, 31};
        int[] blocks = {0 + 1, 1 + 1, 1 + 1, 1 + 3, 1 + 3, 2 + 4, 3 + 6, 1 + 7};
        for (int i = 0; i < rows.length; i++) {
            BuiltIndex x = tableOf(rows[i], 1);
            int before = x.blocks(1);
            int made = x.blocks(2);
            due("build", x.build(true), 1);
            due("published", x.step(1000), 5);
            due("pages and nodes of " + rows[i], x.blocks(1) - before, blocks[i] + 1);
            due("checkpoints", x.blocks(2), made + 1);
            due("writes since", x.blocks(3), 0);
            dueInfo(x, 5, 1, 0, 0, 0, 0);
        }
        BuiltIndex older = inLoad(7);
        due("catch", older.step(3), 4);
        due("a checkpoint behind the load", nextCheckpoint(older, 0), 2);
        int before = older.blocks(1);
        due("published", older.step(1), 5);
        due("page 0, nodes made before the latest checkpoint, too, one more", older.blocks(1) - before, 5);
    }

    // ======== 2 BUILDING: the log beside

    private static void placesThatAreLogged() {
        sentence("2: The LOG BESIDE has what writes do to places whose page was scanned");
        BuiltIndex x = tableOf(240, 1);
        due("build", x.build(false), 1);
        due("no page", x.change(0, -1, 0), 1);
        due("log", x.info(5), 0);
        due("page 0", x.step(1), 1);
        due("last of page 0", x.change(11, -2, 0), 1);
        due("log", x.info(5), 2);
        due("first of page 1", x.change(12, -3, 0), 1);
        due("log", x.info(5), 2);
        due("page 1", x.step(1), 1);
        due("first of page 1", x.change(12, -4, 0), 1);
        due("log", x.info(5), 4);
        due("first of page 2", x.change(24, -5, 0), 1);
        due("log", x.info(5), 4);
        due("till the last page but one", x.step(17), 1);
        due("last of page 18", x.change(227, -6, 0), 1);
        due("log", x.info(5), 6);
        due("first of page 19", x.change(228, -7, 0), 1);
        due("last of page 19", x.change(239, -8, 0), 1);
        due("log", x.info(5), 6);
        due("last page", x.step(1), 2);
        due("last of page 19", x.change(239, -9, 0), 1);
        due("log", x.info(5), 8);
        due("step", x.step(1000), 5);
        int[] places = {239, 228, 227, 24, 12, 11, 0};
        int[] keys = {-9, -7, -6, -5, -4, -2, -1};
        for (int p = 0; p < places.length; p++) {
            due("key", x.entry(p, false), keys[p]);
            due("place", x.entry(p, true), places[p]);
        }
        due("audit", x.audit(), 0);
    }

    private static void whatIsLogged() {
        sentence("2: (a row comes: its entry comes; it goes: that goes; its key becomes another one:"
            + " the old entry goes, the new one comes)");
        for (int state = 2; state <= 4; state++) {
            BuiltIndex x = inState(state);
            due("value alone", x.change(0, 10, 5), 1);
            due("log", x.info(5), 0);
            due("the next key", x.change(0, 11, 5), 1);
            due("log", x.info(5), 2);
            due("back", x.change(0, 10, 5), 1);
            due("log", x.info(5), 4);
            due("comes", x.add(MAX, 5), 3);
            due("log", x.info(5), 5);
            due("goes", x.remove(2), 1);
            due("log", x.info(5), 6);
            due("refused", x.remove(2), UNKNOWN);
            due("refused", x.change(2, 1, 1), UNKNOWN);
            due("log", x.info(5), 6);
            due("published", x.step(1000), 5);
            dueEntries(x, 10, 0, 20, 1, MAX, 3);
        }
    }

    private static void fortyInTheLog() {
        sentence("2: 40 at most; one more: STOPPED for 1 (the write is done all the same)");
        int[] steps = {1, 20, 21, 22};
        for (int state = 1; state <= 4; state++) {
            BuiltIndex x = tableOf(3, 10);
            due("build", x.build(true), 1);
            due("step", x.step(steps[state - 1]), state);
            for (int i = 0; i < 19; i++) {
                due("change", x.change(0, 100 + i, 0), 1);
            }
            due("38", x.info(5), 38);
            due("remove", x.remove(1), 1);
            due("39", x.info(5), 39);
            due("add", x.add(50, 0), 1);
            due("40", x.info(5), 40);
            due("state", x.info(0), state);
            due("value alone", x.change(1, 50, 7), 1);
            due("state", x.info(0), state);
            int all = x.blocks(0);
            due("one more", x.remove(2), 1);
            dueInfo(x, 6, 1, 0, 0, 0, 0, 0, 0, 0, 1, NONE, NONE);
            due("its block", x.blocks(0), all + 1);
            due("done all the same", x.rows(), 2);
            dueArgument("done all the same", () -> x.row(2, false));
            due("it goes no further", x.step(1000), 6);
            due("a new one", x.build(false), 1);
            due("published", x.step(1000), 5);
            dueEntries(x, 50, 1, 118, 0);
        }
        BuiltIndex y = inState(4);
        for (int i = 0; i < 20; i++) {
            due("change", y.change(0, 100 + i, 0), 1);
        }
        due("40", y.info(5), 40);
        due("add", y.add(7, 70), 3);
        due("stopped", y.info(0) + y.info(9), 6 + 1);
        due("done all the same", y.row(3, true), 70);
    }

    private static void fortyInTheLogByAChange() {
        sentence("2: 40 at most; one more: STOPPED for 1", "by a key that becomes another one, which is two");
        for (int before = 38; before <= 40; before++) {
            BuiltIndex x = inState(4);
            for (int i = 0; i < before / 2; i++) {
                due("change", x.change(0, 100 + i, 0), 1);
            }
            if (before % 2 == 1) {
                due("remove", x.remove(2), 1);
            }
            due("log", x.info(5), before);
            due("two more", x.change(1, 77, 70), 1);
            boolean stops = before > 38;
            due("state", x.info(0), stops ? 6 : 4);
            due("why", x.info(9), stops ? 1 : 0);
            due("log", x.info(5), stops ? 0 : 40);
            due("done all the same", x.row(1, false), 77);
            due("done all the same", x.row(1, true), 70);
        }
    }

    private static void roomAgainInTheLog() {
        sentence("2: 40 at most", "what is out of the log makes room, as often as it is so");
        BuiltIndex x = inState(4);
        for (int i = 0; i < 20; i++) {
            due("change", x.change(0, 100 + i, 0), 1);
        }
        for (int i = 0; i < 45; i++) {
            due("40", x.info(5), 40);
            due("one is out", x.step(1), 4);
            due("one more", i % 2 == 0 ? x.add(1000 + i, 0) : x.remove(3), i % 2 == 0 ? 3 : 1);
        }
        due("state", x.info(0), 4);
        due("log", x.step(40), 4);
        dueEntries(x, 20, 1, 30, 2, 119, 0, 1044, 3);
        due("published", x.step(1), 5);
        due("audit", x.audit(), 0);
    }

    // ======== 2 BUILDING: nodes, unique

    /** A published index and rows till there are so many; those from 120 on come before all others. */
    private static BuiltIndex ascending(int rows, int inFront) {
        BuiltIndex x = published(0, 0, false);
        for (int i = 0; i < rows; i++) {
            boolean isInFront = i >= 120 && i < 120 + inFront;
            due("add", x.add(isInFront ? 120 - i - 1 : i, 0), i);
        }
        return x;
    }

    private static void nodesWhilePublished() {
        sentence("2: NODES are 64 at most; one more .. (PUBLISHED, too: the write is done, all of the"
            + " index is gone, it is STOPPED for 2)");
        BuiltIndex x = ascending(199, 10);
        due("63", x.info(6), 63);
        addRows(x, 199, 202, 1);
        due("63", x.info(6), 63);
        due("64", x.add(202, 0), 202);
        dueInfo(x, 5, 0, 0, 0, 0, 0, 64);
        due("audit", x.audit(), 0);
        addRows(x, 203, 206, 1);
        dueInfo(x, 5, 0, 0, 0, 0, 0, 64);
        due("one more", x.add(206, 7), 206);
        dueInfo(x, 6, 0, 0, 0, 0, 0, 0, 0, 0, 2, NONE, NONE);
        due("the write is done", x.row(206, true), 7);
        due("no entry", x.leaf(0), UNKNOWN);
        due("by places", x.ask(MIN, MAX) + x.cost(), 207 + 20);
        due("it goes no further", x.step(1000), 6);
        due("a new one", x.build(false), 1);
        due("published", x.step(1000), 5);
        due("entries", x.info(8), 207);

        BuiltIndex c = ascending(200, 0);
        due("64", c.info(6), 64);
        due("value alone", c.change(3, 3, 1), 1);
        due("to a leaf with room", c.change(199, -1, 1), 1);
        due("back", c.change(199, 199, 1), 1);
        due("state", c.info(0), 5);
        due("the leaf is full: one more by a change", c.change(3, 200, 5), 1);
        dueInfo(c, 6, 0, 0, 0, 0, 0, 0, 0, 0, 2, NONE, NONE);
        due("the write is done", c.row(3, false), 200);
        due("rows", c.rows(), 200);
    }

    private static void nodesByTwo() {
        sentence("2: NODES are 64 at most; one more .. STOPPED for 2", "a leaf and the node over it are divided");
        BuiltIndex x = ascending(196, 0);
        due("62", x.info(6), 62);
        due("two more", x.add(196, 0), 196);
        dueInfo(x, 5, 0, 0, 0, 0, 0, 64);
        BuiltIndex y = ascending(198, 5);
        due("63", y.info(6), 63);
        addRows(y, 198, 201, 1);
        dueInfo(y, 5, 0, 0, 0, 0, 0, 63);
        due("two more", y.add(201, 0), 201);
        dueInfo(y, 6, 0, 0, 0, 0, 0, 0, 0, 0, 2);
        due("the write is done", y.rows(), 202);
    }

    private static void nodesUpToTheRoot() {
        sentence("2: NODES are 64 at most; one more .. STOPPED for 2", "the root is divided, too: four are new");
        divideUpToTheRoot(60);
        divideUpToTheRoot(61);
    }

    private static void divideUpToTheRoot(int before) {
        BuiltIndex x = published(216, 100, false);
        dueTree(x, 43, 3, 216);
        int moved = 0;
        // by three new leaves the nodes over leaves 0 and 6 are divided: the root is over eight
        moved = divideLeaf(x, 0, 43 + 4, moved);
        moved = divideLeaf(x, 6, 47 + 4, moved);
        // by four more the first node over leaves has eight, too
        moved = divideLeaf(x, 0, 51 + 4, moved);
        moved = divideLeaf(x, 6, 55 + 4, moved);
        moved = divideLeaf(x, 12, before, moved);
        due("rows of nodes", x.info(7), 3);
        while (x.leaf(0) < 8 && moved < 90) {
            moved = moveToLeaf(x, 0, moved);
        }
        due("nodes", x.info(6), before);
        moveToLeaf(x, 0, moved);
        if (before + 4 <= 64) {
            due("state", x.info(0), 5);
            dueTree(x, before + 4, 4, 216);
        } else {
            dueInfo(x, 6, 0, 0, 0, 0, 0, 0, 0, 0, 2);
        }
        due("audit", x.audit(), 0);
    }

    private static int divideLeaf(BuiltIndex x, int leaf, int till, int moved) {
        int n = moved;
        while (x.info(6) < till && n < 90) {
            n = moveToLeaf(x, leaf, n);
        }
        due("nodes", x.info(6), till);
        return n;
    }

    /** Moves a row of a leaf that is not divided here, not its first one, behind the first of another. */
    private static int moveToLeaf(BuiltIndex x, int leaf, int moved) {
        int from = 6 * (13 + moved / 4) + 1 + moved % 4;
        due("change", x.change(from, 600 * leaf + 99 - moved, 0), 1);
        return moved + 1;
    }

    private static void nodesThatMakeRoom() {
        sentence("2: NODES are 64 at most", "an old entry goes before the new one comes: its leaf makes room");
        BuiltIndex x = ascending(200, 0);
        due("64", x.info(6), 64);
        removeRows(x, 0, 3);
        due("one is in the first leaf", x.leaf(0), 1);
        due("the last leaf is full", x.leaf(196), 8);
        due("one node goes, one comes", x.change(3, 200, 0), 1);
        due("state", x.info(0), 5);
        due("64", x.info(6), 64);
        due("audit", x.audit(), 0);
        BuiltIndex y = ascending(200, 0);
        removeRows(y, 0, 2);
        due("two are in the first leaf", y.leaf(0), 2);
        due("none goes, one comes", y.change(3, 200, 0), 1);
        due("stopped", y.info(0) + y.info(9), 6 + 2);
    }

    private static void nodesInCatch() {
        sentence("2: NODES are 64 at most; one more (in LOAD, CATCH): STOPPED for 2", "in CATCH");
        BuiltIndex x = new BuiltIndex();
        due("build", x.build(false), 1);
        due("till catch", x.step(22), 4);
        for (int i = 0; i < 200; i++) {
            due("add", x.add(i, 0), i);
            if (i % 40 == 39) {
                due("log", x.step(40), 4);
            }
        }
        dueInfo(x, 4, 0, 20, 0, 0, 0, 64);
        due("add", x.add(200, 0), 200);
        due("add", x.add(201, 0), 201);
        due("not in the tree yet", x.info(6), 64);
        int all = x.blocks(0);
        due("one more", x.step(1), 6);
        due("no block", x.blocks(0), all);
        dueInfo(x, 6, 0, 0, 0, 0, 0, 0, 0, 0, 2, NONE, NONE);
        due("rows", x.rows(), 202);

        BuiltIndex y = new BuiltIndex();
        due("build", y.build(false), 1);
        due("till catch", y.step(22), 4);
        for (int i = 0; i < 200; i++) {
            due("add", y.add(i, 0), i);
            if (i % 40 == 39) {
                due("log", y.step(40), 4);
            }
        }
        due("64 are published", y.step(1), 5);
        due("nodes", y.info(6), 64);
    }

    private static void nodesInLoad() {
        sentence("2: NODES are 64 at most; one more (in LOAD, CATCH): STOPPED for 2", "in LOAD 50 are the most");
        BuiltIndex x = inLoad(240);
        due("49", x.step(49), 3);
        due("nodes", x.info(6), 49);
        due("root", x.step(1), 4);
        due("nodes", x.info(6), 50);
    }

    private static void duplicates() {
        sentence("2: While a unique index is PUBLISHED, a write by which two rows would have one key is"
            + " DUPLICATE");
        BuiltIndex x = inState(5);
        due("one below", x.add(19, 0), 3);
        due("that key", x.add(20, 0), DUPLICATE);
        due("one above", x.add(21, 0), 4);
        due("change, one below", x.change(0, 18, 0), 1);
        due("change, that key", x.change(0, 20, 0), DUPLICATE);
        due("change, one above", x.change(0, 22, 0), 1);
        due("its own key", x.change(1, 20, 5), 1);
        due("its own key and value", x.change(1, 20, 5), 1);
        due("the key that is free now", x.change(0, 10, 0), 1);
        due("remove", x.remove(1), 1);
        due("it is free", x.add(20, 0), 1);
        due("not again", x.add(20, 0), DUPLICATE);
        due("least", x.add(MIN, 0), 5);
        due("least again", x.add(MIN, 0), DUPLICATE);
        due("most", x.add(MAX, 0), 6);
        due("most again", x.change(0, MAX, 0), DUPLICATE);
        due("audit", x.audit(), 0);
        lose(x);
        due("start", x.start(), 7);
        due("after a loss", x.add(20, 0), DUPLICATE);
        BuiltIndex full = published(240, 10, true);
        due("the key of the last place", full.change(0, 2390, 0), DUPLICATE);
        due("the key of the first place", full.change(239, 0, 0), DUPLICATE);
    }

    private static void duplicatesWhilePublishedAlone() {
        sentence("2: While a unique index is PUBLISHED", "in no other STATE, of no other index");
        for (int state = 0; state <= 6; state++) {
            BuiltIndex x = inState(state);
            due("add in " + state, x.add(10, 0), state == 5 ? DUPLICATE : 3);
            due("change in " + state, x.change(1, 10, 0), state == 5 ? DUPLICATE : 1);
        }
        BuiltIndex other = published(3, 10, false);
        due("not unique", other.add(10, 0), 3);
        due("not unique", other.change(0, 10, 0), 1);
        dueEntries(other, 10, 0, 10, 1, 10, 3, 20, 2);
        BuiltIndex dropped = inState(5);
        due("drop", dropped.drop(), 5);
        due("dropped", dropped.add(10, 0), 3);
    }

    // ======== THE TREE

    private static void oneToEight() {
        sentence("THE TREE: leaves and nodes over them, each has one to eight (entries; nodes)");
        BuiltIndex x = published(0, 0, false);
        for (int i = 0; i < 8; i++) {
            due("add", x.add(i, 0), i);
            dueTree(x, 1, 1, i + 1);
            dueLeaves(x, i + 1);
        }
        due("nine", x.add(8, 0), 8);
        dueTree(x, 3, 2, 9);
        dueLeaves(x, 4, 5);

        // leaves of four at the left, the last of five to eight; the root has two to eight of them
        for (int i = 9; i < 36; i++) {
            due("add", x.add(i, 0), i);
        }
        dueTree(x, 9, 2, 36);
        dueLeaves(x, 4, 4, 4, 4, 4, 4, 4, 8);
        due("nine leaves", x.add(36, 0), 36);
        dueTree(x, 12, 3, 37);
        dueLeaves(x, 4, 4, 4, 4, 4, 4, 4, 4, 5);

        BuiltIndex y = published(12, 10, false);
        removeRows(y, 0, 5);
        dueLeaves(y, 1, 6);
        dueTree(y, 3, 2, 7);
        due("none is left", y.remove(5), 1);
        dueLeaves(y, 6);
        dueTree(y, 1, 1, 6);
    }

    private static void emptyRoot() {
        sentence("THE TREE: but the root alone may be an empty leaf");
        BuiltIndex x = published(2, 10, true);
        due("remove", x.remove(0), 1);
        dueTree(x, 1, 1, 1);
        due("remove", x.remove(1), 1);
        dueTree(x, 1, 1, 0);
        due("state", x.info(0), 5);
        dueArgument("no entry", () -> x.entry(0, false));
        due("no leaf of an entry", x.leaf(0), UNKNOWN);
        due("ask", x.ask(MIN, MAX), 0);
        due("cost", x.cost(), 1);
        due("a leaf, a page, one more", x.add(7, 0), 0);
        dueTree(x, 1, 1, 1);
        dueEntries(x, 7, 0);
        due("empty at a checkpoint", x.remove(0), 1);
        due("drop", x.drop(), 5);

        BuiltIndex y = published(0, 0, true);
        dueTree(y, 1, 1, 0);
        lose(y);
        due("start", y.start(), 0);
        dueTree(y, 1, 1, 0);
    }

    private static void lastThatBeginsNotBehind() {
        sentence("THE TREE: An entry COMES to the leaf of the last node that begins (with its least"
            + " entry) not behind it, from the root on");
        // the second leaf begins with the key 60 at place 6; place 0 was made free
        for (int key = 59; key <= 61; key++) {
            BuiltIndex x = published(12, 10, false);
            due("remove", x.remove(0), 1);
            due("a lesser place", x.add(key, 0), 0);
            dueLeaves(x, key <= 60 ? 6 : 5, key <= 60 ? 6 : 7);
            BuiltIndex y = published(12, 10, false);
            due("a greater place", y.add(key, 0), 12);
            dueLeaves(y, key <= 59 ? 7 : 6, key <= 59 ? 6 : 7);
        }
        // begins are those of now: 60 goes, the second leaf begins with 70; then 65 comes to the first
        BuiltIndex now = published(12, 10, false);
        due("remove", now.remove(6), 1);
        due("add", now.add(65, 0), 6);
        dueLeaves(now, 7, 5);
        due("begin", now.add(70, 0), 12);
        dueLeaves(now, 7, 6);

        // three rows of nodes: the second node over leaves begins with 360
        int[] keys = {359, 360, 361};
        for (int key : keys) {
            BuiltIndex x = eightLeaves();
            due("add", x.add(key, 0), 48);
            dueLeaves(x, 6, 6, 6, 6, 6, key < 360 ? 7 : 6, key < 360 ? 6 : 7, 6);
            BuiltIndex y = eightLeaves();
            due("remove", y.remove(0), 1);
            due("a lesser place", y.add(key, 0), 0);
            dueLeaves(y, 5, 6, 6, 6, 6, key <= 360 ? 7 : 6, key <= 360 ? 6 : 7, 6);
        }
    }

    private static void firstIfThereIsNone() {
        sentence("THE TREE: (the first, if there is none)");
        int[] keys = {MIN, -1, 0};
        for (int key : keys) {
            BuiltIndex x = eightLeaves();
            due("add", x.add(key, 0), 48);
            dueLeaves(x, 7, 6, 6, 6, 6, 6, 6, 6);
            due("place of the first", x.entry(0, true), key < 0 ? 48 : 0);
        }
        BuiltIndex y = published(12, 10, false);
        removeRows(y, 0, 2);
        due("before all: key 20 of place 2, a lesser place", y.add(20, 0), 0);
        dueLeaves(y, 5, 6);
        due("first", y.entry(0, true), 0);
        BuiltIndex last = eightLeaves();
        due("behind all: the last", last.add(MAX, 0), 48);
        dueLeaves(last, 6, 6, 6, 6, 6, 6, 6, 7);
        BuiltIndex empty = published(0, 0, false);
        due("the empty root", empty.add(MIN, 0), 0);
        dueLeaves(empty, 1);
    }

    private static void fourStay() {
        sentence("THE TREE: Nine are divided: four stay, five are a new one right of it, in the node over it");
        // the ninth is the first, in the midst, the last of those that stay, the first that goes, the last
        int[] ninth = {-5, 25, 31, 41, 45, 59};
        for (int key : ninth) {
            BuiltIndex x = published(18, 10, false);
            due("add", x.add(key < 0 ? -4 : 55, 0), 18);
            due("add", x.add(key < 0 ? -3 : 56, 0), 19);
            dueLeaves(x, 8, 6, 6);
            dueTree(x, 4, 2, 20);
            due("ninth", x.add(key, 0), 20);
            dueLeaves(x, 4, 5, 6, 6);
            dueTree(x, 5, 2, 21);
        }
        BuiltIndex middle = published(18, 10, false);
        for (int i = 0; i < 3; i++) {
            due("add", middle.add(111 + i, 0), 18 + i);
        }
        dueLeaves(middle, 6, 4, 5, 6);
        BuiltIndex last = published(18, 10, false);
        for (int i = 0; i < 3; i++) {
            due("add", last.add(171 + i, 0), 18 + i);
        }
        dueLeaves(last, 6, 6, 4, 5);
        for (int p = 1; p < 21; p++) {
            due("in order", last.entry(p - 1, false) < last.entry(p, false) ? 1 : 0, 1);
        }
    }

    private static void nineNodes() {
        sentence("THE TREE: nine there likewise");
        BuiltIndex x = eightLeaves();
        int[] nodes = {11, 11, 12, 12, 12, 13, 13, 13, 15};
        for (int i = 0; i < 9; i++) {
            due("add", x.add(60 * (i / 3) + 51 + i % 3, 0), 48 + i);
            dueTree(x, nodes[i], 3, 49 + i);
        }
        dueLeaves(x, 4, 5, 4, 5, 4, 5, 6, 6, 6, 6, 6);
        // four leaves stay under the first node, five are under the next: by four more the first has
        // eight, and by a fifth it is divided; the other one by its fourth
        int[] more = {16, 17, 18, 19, 21};
        divideInFront(x, more);
        BuiltIndex y = eightLeaves();
        for (int i = 0; i < 9; i++) {
            due("add", y.add(60 * (i / 3) + 51 + i % 3, 0), 48 + i);
        }
        int[] right = {16, 17, 18, 20};
        divideBehind(y, right);
    }

    /** Divides the first leaf again and again: a leaf of four by five more, left of all. */
    private static void divideInFront(BuiltIndex x, int[] nodes) {
        int place = x.rows();
        for (int n : nodes) {
            while (x.leaf(0) < 8) {
                due("add", x.add(-place, 0), place);
                place++;
            }
            due("ninth", x.add(-place, 0), place);
            place++;
            due("nodes", x.info(6), n);
            due("rows of nodes", x.info(7), 3);
        }
        due("audit", x.audit(), 0);
    }

    /** Divides the last leaf of the second node over leaves, that of the key 355, again and again. */
    private static void divideBehind(BuiltIndex x, int[] nodes) {
        int place = x.rows();
        for (int n : nodes) {
            int before = x.info(6);
            for (int i = 0; i < 9 && x.info(6) == before; i++) {
                due("add", x.add(355, 0), place);
                place++;
            }
            due("nodes", x.info(6), n);
            due("rows of nodes", x.info(7), 3);
        }
        due("audit", x.audit(), 0);
    }

    private static void dividedRoot() {
        sentence("THE TREE: a root that is divided has a new one over it");
        BuiltIndex leaf = published(6, 10, false);
        due("add", leaf.add(51, 0), 6);
        due("add", leaf.add(52, 0), 7);
        dueTree(leaf, 1, 1, 8);
        due("ninth", leaf.add(53, 0), 8);
        dueTree(leaf, 3, 2, 9);

        // eight leaves under the root; the first of them is divided, and so is the root
        BuiltIndex two = published(36, 10, false);
        dueTree(two, 7, 2, 36);
        int[] nodes = {7, 7, 8, 8, 8, 9, 9, 9, 12};
        for (int i = 0; i < 9; i++) {
            due("add", two.add(60 * (i / 3) + 51 + i % 3, 0), 36 + i);
            dueTree(two, nodes[i], i < 8 ? 2 : 3, 37 + i);
        }
        dueLeaves(two, 4, 5, 4, 5, 4, 5, 6, 6, 6);
        dueCost(two, 0, 0, 3);

        // leaves of four but for the last of eight, nodes over four of them but for the last of eight
        BuiltIndex x = ascending(148, 0);
        dueTree(x, 36 + 8 + 1, 3, 148);
        due("a leaf, a node, the root are divided", x.add(148, 0), 148);
        dueTree(x, 37 + 9 + 2 + 1, 4, 149);
    }

    private static void leafWithoutEntries() {
        sentence("THE TREE: An entry GOES: a leaf without entries goes from the node over it");
        int[] firsts = {0, 6, 12};
        for (int first : firsts) {
            BuiltIndex x = published(18, 10, false);
            for (int i = first; i < first + 5; i++) {
                due("remove", x.remove(i), 1);
                dueTree(x, 4, 2, 17 - (i - first));
            }
            due("one is in it", x.leaf(first), 1);
            due("the last of it", x.remove(first + 5), 1);
            dueTree(x, 3, 2, 12);
            dueLeaves(x, 6, 6);
        }
        // the entry that comes next, of a key that was there, comes to the leaf left of it
        BuiltIndex y = published(18, 10, false);
        removeRows(y, 6, 12);
        due("add", y.add(60, 0), 6);
        dueLeaves(y, 7, 6);
        due("the same by a change: the old one goes first", y.change(6, 61, 0), 1);
        dueLeaves(y, 7, 6);
        BuiltIndex z = published(7, 10, false);
        due("the leaf goes before the new one comes", z.change(6, 61, 0), 1);
        dueLeaves(z, 7);
        dueTree(z, 1, 1, 7);
    }

    private static void nodeWithoutNodes() {
        sentence("THE TREE: such a node without nodes likewise (but the root)");
        // 13 leaves: three nodes over six, six and one, a root
        BuiltIndex x = published(73, 10, false);
        dueTree(x, 17, 3, 73);
        due("a leaf and the node over it", x.remove(72), 1);
        dueTree(x, 15, 3, 72);

        BuiltIndex first = published(84, 10, false);
        dueTree(first, 14 + 3 + 1, 3, 84);
        removeRows(first, 0, 35);
        dueTree(first, 9 + 3 + 1, 3, 49);
        due("the sixth leaf and the node over it", first.remove(35), 1);
        dueTree(first, 8 + 2 + 1, 3, 48);
        dueLeaves(first, 6, 6, 6, 6, 6, 6, 6, 6);
        removeRows(first, 72, 83);
        dueTree(first, 7 + 2 + 1, 3, 37);
        dueLeaves(first, 6, 6, 6, 6, 6, 6, 1);
        due("but the root: it is over just one then", first.remove(83), 1);
        dueTree(first, 7, 2, 36);
    }

    private static void rootOverOne() {
        sentence("THE TREE: a root over just one node goes: that is the root (again, if it is so)");
        BuiltIndex three = published(18, 10, false);
        removeRows(three, 12, 18);
        dueTree(three, 3, 2, 12);
        removeRows(three, 6, 11);
        dueTree(three, 3, 2, 7);
        due("two leaves become one", three.remove(11), 1);
        dueTree(three, 1, 1, 6);

        // 37 rows: six leaves under a node, one under another, a root
        BuiltIndex one = published(37, 10, false);
        dueTree(one, 10, 3, 37);
        due("the root goes, the node over six is the root", one.remove(36), 1);
        dueTree(one, 7, 2, 36);

        BuiltIndex again = published(37, 10, false);
        removeRows(again, 6, 36);
        // the first node has one leaf: it is no root, it stays
        dueTree(again, 5, 3, 7);
        due("the root goes, and the next one, too", again.remove(36), 1);
        dueTree(again, 1, 1, 6);
        dueLeaves(again, 6);
        due("cost", again.ask(0, 50) + again.cost(), 6 + 1);

        BuiltIndex four = published(217, 10, false);
        dueTree(four, 47, 4, 217);
        due("four rows of nodes: the root goes", four.remove(216), 1);
        dueTree(four, 43, 3, 216);
    }

    // ======== 3 QUESTIONS

    private static void fromLowToHigh() {
        sentence("3: From low to high");
        for (int indexed = 0; indexed <= 1; indexed++) {
            BuiltIndex x = new BuiltIndex();
            int[] keys = {30, 10, MAX, 20, MIN};
            for (int key : keys) {
                x.add(key, 0);
            }
            if (indexed == 1) {
                due("build", x.build(false), 1);
                due("step", x.step(1000), 5);
            }
            due("10 .. 30", x.ask(10, 30), 3);
            due("9 .. 31", x.ask(9, 31), 3);
            due("11 .. 29", x.ask(11, 29), 1);
            due("10 .. 29", x.ask(10, 29), 2);
            due("11 .. 30", x.ask(11, 30), 2);
            due("20 .. 20", x.ask(20, 20), 1);
            due("19 .. 19", x.ask(19, 19), 0);
            due("21 .. 20", x.ask(21, 20), 0);
            due("30 .. 10", x.ask(30, 10), 0);
            due("all", x.ask(MIN, MAX), 5);
            due("all but the least", x.ask(MIN + 1, MAX), 4);
            due("all but the most", x.ask(MIN, MAX - 1), 4);
            due("least", x.ask(MIN, MIN), 1);
            due("most", x.ask(MAX, MAX), 1);
            due("turned", x.ask(MAX, MIN), 0);
        }
        BuiltIndex none = new BuiltIndex();
        due("no rows", none.ask(MIN, MAX), 0);
        BuiltIndex full = tableOf(240, 1);
        due("all of a full table", full.ask(0, 239), 240);
        due("last", full.answer(239), 239);
        due("build", full.build(true), 1);
        due("step", full.step(1000), 5);
        due("all of a full table", full.ask(0, 239), 240);
        due("last", full.answer(239), 239);
        due("behind", full.answer(240), NONE);
    }

    private static void orderOfAnswers() {
        sentence("3: by a PUBLISHED index the rows are told in the order of entries, else by places");
        for (int state = 0; state <= 6; state++) {
            BuiltIndex x = inState(state);
            due("change", x.change(0, 40, 0), 1);
            due("ask", x.ask(20, 40), 3);
            if (state == 5) {
                dueAnswers(x, 1, 2, 0);
            } else {
                dueAnswers(x, 0, 1, 2);
            }
        }
        BuiltIndex lost = inState(5);
        due("change", lost.change(0, 40, 0), 1);
        lose(lost);
        due("start", lost.start(), 3);
        due("ask", lost.ask(20, 40), 3);
        dueAnswers(lost, 1, 2, 0);
        due("drop", lost.drop(), 5);
        dueAnswers(lost, 1, 2, 0);
        due("ask", lost.ask(20, 40), 3);
        dueAnswers(lost, 0, 1, 2);
    }

    private static void costOfTheWay() {
        sentence("3: by an index one for each node on the way from the root to the leaf where an entry of"
            + " the key low and place 0 would come (both of these, too)");
        int[] rows = {0, 1, 6, 7, 36, 37, 216, 217};
        int[] deep = {1, 1, 1, 2, 2, 3, 3, 4};
        for (int i = 0; i < rows.length; i++) {
            BuiltIndex x = published(rows[i], 10, false);
            dueCost(x, MAX, MAX, deep[i]);
            dueCost(x, MIN, MIN, deep[i]);
            dueCost(x, 1, 1, deep[i]);
        }
        BuiltIndex x = eightLeaves();
        // 60 begins the second leaf at place 6, so (60, 0) would come to the first one
        dueCost(x, 59, 59, 3);
        dueCost(x, 60, 60, 4);
        dueCost(x, 61, 61, 3);
        dueCost(x, 60, 59, 3);
        // 360 begins the second node over leaves: the leaf left of it is under the first one
        dueCost(x, 359, 359, 3);
        dueCost(x, 360, 360, 4);
        dueCost(x, 361, 361, 3);
        // a leaf that begins with place 0 is the one where key and place 0 would come
        BuiltIndex zero = published(12, -10, false);
        dueLeaves(zero, 6, 6);
        due("-50 at place 5 begins the second leaf", zero.entry(6, true), 5);
        removeRows(zero, 0, 1);
        due("place 0", zero.add(-51, 0), 0);
        dueCost(zero, -51, -51, 2);
        due("remove", zero.remove(0), 1);
        due("the row at place 5 goes", zero.remove(5), 1);
        due("-45 at place 0 comes to the first leaf", zero.add(-45, 0), 0);
        dueLeaves(zero, 7, 4);

        BuiltIndex begins = tableOf(7, 10);
        due("change", begins.change(0, 70, 0), 1);
        due("build", begins.build(false), 1);
        due("step", begins.step(1000), 5);
        due("place 0 begins the second leaf", begins.entry(6, true), 0);
        dueCost(begins, 70, 70, 2);
        dueCost(begins, 69, 70, 3);
        dueCost(begins, 69, 69, 2);
    }

    private static void costOfLeavesToTheRight() {
        sentence("3: and for each leaf right of that one whose first key is not above high");
        BuiltIndex x = eightLeaves();
        for (int leaf = 1; leaf < 8; leaf++) {
            dueCost(x, 0, 60 * leaf - 1, 3 + leaf - 1);
            dueCost(x, 0, 60 * leaf, 3 + leaf);
            dueCost(x, 0, 60 * leaf + 1, 3 + leaf);
        }
        dueCost(x, MIN, MAX, 10);
        dueCost(x, MIN, -1, 3);
        dueCost(x, 61, MAX, 9);
        dueCost(x, 420, MAX, 4);
        dueCost(x, 421, MAX, 3);
        dueCost(x, MAX, MAX, 3);
        dueCost(x, 421, 0, 3);
        dueCost(x, MAX, MIN, 3);
        BuiltIndex same = published(24, 0, false);
        dueCost(same, 0, 0, 2 + 3);
        dueCost(same, -1, 0, 2 + 3);
        dueCost(same, -1, -1, 2);
        dueCost(same, 1, 1, 2);
    }

    private static void costOfTheTable() {
        sentence("3: What it COSTS .. else 20");
        for (int state = 0; state <= 6; state++) {
            BuiltIndex x = inState(state);
            dueCost(x, 10, 10, state == 5 ? 1 : 20);
            dueCost(x, 30, 10, state == 5 ? 1 : 20);
        }
        BuiltIndex full = tableOf(240, 1);
        dueCost(full, MIN, MAX, 20);
        BuiltIndex empty = new BuiltIndex();
        dueCost(empty, MIN, MAX, 20);
    }

    private static void refusalsDoNothing() {
        sentence("3: UNKNOWN, OUTSIDE, STATE, ROOM, DUPLICATE are told by calls that do nothing else");
        for (int state = 0; state <= 6; state++) {
            BuiltIndex x = inState(state);
            due("ask", x.ask(15, 35), 2);
            String before = seen(x);
            due("change", x.change(3, 1, 1), UNKNOWN);
            due("remove", x.remove(3), UNKNOWN);
            due("cut", x.cut(0, 64), OUTSIDE);
            due("cut", x.cut(-2, 0), OUTSIDE);
            due("start", x.start(), STATE);
            due("step", x.step(0), OUTSIDE);
            due("step", x.step(1001), OUTSIDE);
            due("info", x.info(12), OUTSIDE);
            due("leaf", x.leaf(3), UNKNOWN);
            due("blocks", x.blocks(4), OUTSIDE);
            dueArgument("row", () -> x.row(3, true));
            dueArgument("entry", () -> x.entry(3, true));
            if (state >= 1 && state <= 5) {
                due("build", x.build(false), STATE);
            }
            if (state == 5) {
                due("add", x.add(10, 1), DUPLICATE);
                due("change", x.change(2, 10, 1), DUPLICATE);
            }
            dueSame("what is seen in " + state, seen(x), before);
        }
        BuiltIndex full = tableOf(240, 1);
        String before = seen(full);
        due("add", full.add(1, 1), ROOM);
        dueSame("what is seen", seen(full), before);

        BuiltIndex set = inState(0);
        due("cut", set.cut(1, 0), 1);
        due("refused", set.cut(0, 64), OUTSIDE);
        due("refused", set.start(), STATE);
        due("first block", set.remove(0), 1);
        due("second block", set.remove(1), LOST);
    }

    private static void firstRefusal() {
        sentence("3: (DOWN before all); of several the first one in the order in which a call names them");
        BuiltIndex d = published(240, 1, true);
        due("ask", d.ask(5, 6), 2);
        due("room before duplicate", d.add(7, 0), ROOM);
        due("unknown before duplicate", d.change(240, 7, 0), UNKNOWN);
        due("cut", d.cut(0, 0), 1);
        due("room before lost", d.add(7, 0), ROOM);
        due("unknown before lost", d.change(-1, 7, 0), UNKNOWN);
        due("unknown before lost", d.remove(-1), UNKNOWN);
        due("duplicate before lost", d.change(0, 7, 0), DUPLICATE);
        due("lost", d.change(0, 0, 0), LOST);
        due("add", d.add(7, 0), DOWN);
        due("change", d.change(-1, 7, 0), DOWN);
        due("change", d.change(0, 7, 0), DOWN);
        due("remove", d.remove(-1), DOWN);
        due("cut", d.cut(-2, 64), DOWN);
        due("build", d.build(true), DOWN);
        due("drop", d.drop(), DOWN);
        due("step", d.step(0), DOWN);
        due("info", d.info(-1), DOWN);
        due("leaf", d.leaf(-1), DOWN);
        due("ask", d.ask(0, 0), DOWN);
        due("rows", d.rows(), DOWN);
        due("audit", d.audit(), DOWN);
        dueState("row", () -> d.row(-1, true));
        dueState("entry", () -> d.entry(-1, true));
        due("blocks, while DOWN", d.blocks(4), OUTSIDE);
        dueAnswers(d, 5, 6);
        due("start", d.start(), 240);
        due("nothing was done", d.audit(), 0);
        due("state", d.info(0), 5);
    }

    // ======== the promises

    private static void promise1() {
        sentence("Promise 1: An empty table, power that stays, no index");
        BuiltIndex x = new BuiltIndex();
        due("rows", x.rows(), 0);
        dueArgument("first place", () -> x.row(0, false));
        dueArgument("last place", () -> x.row(239, false));
        dueNoIndex(x);
        dueBlocks(x, 0, 0, 0, 0);
        due("audit", x.audit(), 0);
        due("it is not DOWN", x.start(), STATE);
        due("no index", x.step(1000), 0);
        due("no index", x.drop(), 0);
        addRows(x, 0, 240, 1);
        due("power stays", x.rows(), 240);
        BuiltIndex other = new BuiltIndex();
        due("another object", other.rows(), 0);
        due("another object", other.add(5, 5), 0);
    }

    private static void promise2() {
        sentence("Promise 2: A row comes to the least free place: which. DOWN, ROOM, DUPLICATE, LOST");
        BuiltIndex x = tableOf(239, 1);
        due("one place is free", x.add(7, 7), 239);
        due("none is free", x.add(7, 7), ROOM);
        due("remove", x.remove(239), 1);
        due("remove", x.remove(120), 1);
        due("remove", x.remove(0), 1);
        due("least", x.add(7, 7), 0);
        due("next", x.add(7, 7), 120);
        due("last", x.add(7, 7), 239);
        due("none", x.add(7, 7), ROOM);
        due("rows", x.rows(), 240);
        BuiltIndex u = inState(5);
        due("duplicate", u.add(10, 0), DUPLICATE);
        due("cut", u.cut(0, 0), 1);
        due("duplicate before lost", u.add(10, 0), DUPLICATE);
        due("lost", u.add(11, 0), LOST);
        due("down", u.add(10, 0), DOWN);
        due("start", u.start(), 3);
        due("the same place", u.add(11, 0), 3);
    }

    private static void promise3() {
        sentence("Promise 3: The row at a place becomes another one: 1. DOWN, UNKNOWN, DUPLICATE, LOST");
        BuiltIndex x = tableOf(240, 1);
        int[] outside = {MIN, -240, -1, 240, 241, 255, 256, MAX};
        for (int place : outside) {
            due("change(" + place + ")", x.change(place, 5, 5), UNKNOWN);
        }
        due("first", x.change(0, MIN, MAX), 1);
        due("last", x.change(239, MAX, MIN), 1);
        due("key", x.row(0, false), MIN);
        due("value", x.row(239, true), MIN);
        due("next to it is as it was", x.row(1, false) + x.row(238, false), 239);
        due("remove", x.remove(100), 1);
        due("no row", x.change(100, 1, 1), UNKNOWN);
        due("below it", x.change(99, 1, 1), 1);
        due("above it", x.change(101, 1, 1), 1);
        due("rows", x.rows(), 239);
        BuiltIndex u = inState(5);
        due("unknown before duplicate", u.change(3, 10, 0), UNKNOWN);
        due("duplicate", u.change(2, 10, 0), DUPLICATE);
        due("cut", u.cut(0, 0), 1);
        due("duplicate before lost", u.change(2, 10, 0), DUPLICATE);
        due("lost", u.change(2, 11, 0), LOST);
        due("down", u.change(3, 10, 0), DOWN);
    }

    private static void promise4() {
        sentence("Promise 4: The row at a place goes: 1. DOWN, UNKNOWN, LOST");
        BuiltIndex x = tableOf(240, 1);
        int[] outside = {MIN, -240, -1, 240, 241, 255, 256, MAX};
        for (int place : outside) {
            due("remove(" + place + ")", x.remove(place), UNKNOWN);
        }
        due("last", x.remove(239), 1);
        due("again", x.remove(239), UNKNOWN);
        due("first", x.remove(0), 1);
        due("again", x.remove(0), UNKNOWN);
        due("rows", x.rows(), 238);
        due("next to it", x.row(1, false) + x.row(238, false), 239);
        due("cut", x.cut(0, 0), 1);
        due("unknown before lost", x.remove(0), UNKNOWN);
        due("lost", x.remove(1), LOST);
        due("down", x.remove(0), DOWN);
        due("start", x.start(), 238);
        due("not done", x.row(1, false), 1);
    }

    private static void promise5() {
        sentence("Promise 5: IllegalArgumentException: there is no row; IllegalStateException (first): DOWN");
        BuiltIndex x = tableOf(240, 1);
        due("first", x.row(0, false), 0);
        due("first", x.row(0, true), 1000);
        due("last", x.row(239, false), 239);
        due("last", x.row(239, true), 1239);
        int[] outside = {MIN, -1, 240, 256, MAX};
        for (int place : outside) {
            dueArgument("row(" + place + ")", () -> x.row(place, false));
            dueArgument("row(" + place + ")", () -> x.row(place, true));
        }
        due("remove", x.remove(7), 1);
        dueArgument("no row", () -> x.row(7, true));
        due("cut", x.cut(0, 0), 1);
        due("lost", x.remove(8), LOST);
        for (int place : outside) {
            dueState("row(" + place + ")", () -> x.row(place, true));
        }
        dueState("row", () -> x.row(0, false));
        dueState("no row", () -> x.row(7, false));
    }

    private static void promise6() {
        sentence("Promise 6: Power goes at the n-th block that is written from now on (0 the next one),"
            + " of which tear (0 .. 63) words are the new ones; NONE: it stays; what was set before does"
            + " not count: 1. DOWN, OUTSIDE (n -1 .. 1000, tear)");
        BuiltIndex x = new BuiltIndex();
        int[] goodN = {-1, 0, 1, 999, 1000};
        int[] badN = {MIN, -2, 1001, MAX};
        int[] goodTear = {0, 1, 62, 63};
        int[] badTear = {MIN, -1, 64, MAX};
        for (int tear : goodTear) {
            for (int n : goodN) {
                due("cut(" + n + ", " + tear + ")", x.cut(n, tear), 1);
            }
            for (int n : badN) {
                due("cut(" + n + ", " + tear + ")", x.cut(n, tear), OUTSIDE);
            }
        }
        for (int tear : badTear) {
            for (int n : goodN) {
                due("cut(" + n + ", " + tear + ")", x.cut(n, tear), OUTSIDE);
            }
            for (int n : badN) {
                due("cut(" + n + ", " + tear + ")", x.cut(n, tear), OUTSIDE);
            }
        }
        for (int n = 0; n <= 3; n++) {
            BuiltIndex y = new BuiltIndex();
            due("cut", y.cut(n, 0), 1);
            addRows(y, 0, n, 1);
            due("block " + n, y.add(9, 9), LOST);
            due("down", y.cut(NONE, 0), DOWN);
            due("down before outside", y.cut(-2, 0), DOWN);
        }
        BuiltIndex z = new BuiltIndex();
        due("the next one", z.cut(0, 0), 1);
        due("it stays", z.cut(NONE, 0), 1);
        addRows(z, 0, 3, 1);
        due("the next one", z.cut(0, 0), 1);
        due("what was set before does not count", z.cut(2, 0), 1);
        addRows(z, 3, 5, 1);
        due("from now on", z.cut(1, 0), 1);
        addRows(z, 5, 6, 1);
        due("lost", z.add(6, 6), LOST);
    }

    private static void promise6FarBlocks() {
        sentence("Promise 6: Power goes at the n-th block that is written from now on", "the last ones of 1000");
        for (int n = 998; n <= 1000; n++) {
            BuiltIndex x = tableOf(240, 1);
            int all = x.blocks(0);
            due("cut", x.cut(n, 63), 1);
            int answer = 5;
            for (int i = 0; i < 9 && answer == 5; i++) {
                due("build", x.build(false), 1);
                answer = x.step(1000);
                if (answer == 5) {
                    answer = x.drop();
                }
            }
            due("lost", answer, LOST);
            due("blocks", x.blocks(0), all + n + 1);
        }
    }

    private static void promise7() {
        sentence("Promise 7: There is power again, and it stays: how many rows there are. STATE (it is not"
            + " DOWN)");
        int[] rows = {0, 1, 239, 240};
        for (int n : rows) {
            BuiltIndex x = tableOf(n, 1);
            due("not DOWN", x.start(), STATE);
            due("build", x.build(false), 1);
            due("cut", x.cut(0, 0), 1);
            due("power is set to go, it is not DOWN", x.start(), STATE);
            due("lost", x.step(1000), LOST);
            due("start", x.start(), n);
            due("again", x.start(), STATE);
            due("rows", x.rows(), n);
            due("build", x.build(false), 1);
            due("power stays", x.step(1000), 5);
        }
        for (int state = 0; state <= 6; state++) {
            due("not DOWN in " + state, inState(state).start(), STATE);
        }
    }

    private static void promise8() {
        sentence("Promise 8: An index is begun (unique or not): SCAN, page 0. DOWN, STATE (it is 1 .. 5)."
            + " Answers 1");
        for (int state = 0; state <= 6; state++) {
            for (int unique = 0; unique <= 1; unique++) {
                BuiltIndex x = inState(state);
                boolean refused = state >= 1 && state <= 5;
                int all = x.blocks(0);
                due("build in " + state, x.build(unique == 1), refused ? STATE : 1);
                due("no block", x.blocks(0), all);
                if (!refused) {
                    dueInfo(x, 1, unique, 0, 0, 0, 0, 0, 0, 0, 0, NONE, NONE);
                } else {
                    due("state", x.info(0), state);
                    due("unique", x.info(1), 1);
                }
            }
        }
        BuiltIndex d = inState(5);
        lose(d);
        due("down", d.build(true), DOWN);
        BuiltIndex s = inState(4);
        for (int i = 0; i < 21; i++) {
            due("change", s.change(0, 100 + i, 0), 1);
        }
        due("stopped for 1", s.info(9), 1);
        due("begun again", s.build(true), 1);
        dueInfo(s, 1, 1, 0, 0, 0, 0, 0, 0, 0, 0, NONE, NONE);
        due("the log begins again, too", s.step(1000), 5);
        dueEntries(s, 20, 1, 30, 2, 120, 0);
    }

    private static void promise9() {
        sentence("Promise 9: The index is gone, whatever it is: its STATE then. DOWN. (If the STATE is 5, a"
            + " CHECKPOINT is made, without it");
        for (int state = 0; state <= 6; state++) {
            BuiltIndex x = inState(state);
            int all = x.blocks(0);
            int of = x.blocks(1);
            int made = x.blocks(2);
            due("drop in " + state, x.drop(), state);
            dueNoIndex(x);
            due("blocks", x.blocks(0) - all, state == 5 ? 1 : 0);
            due("of checkpoints", x.blocks(1) - of, state == 5 ? 1 : 0);
            due("checkpoints", x.blocks(2) - made, state == 5 ? 1 : 0);
            due("again", x.drop(), 0);
            due("rows", x.rows(), 3);
            due("no step", x.step(1000), 0);
            due("build", x.build(true), 1);
        }
        BuiltIndex x = eightLeaves();
        due("a leaf, page 4", x.add(5, 0), 48);
        due("a leaf, page 3", x.remove(47), 1);
        int of = x.blocks(1);
        due("drop", x.drop(), 5);
        due("two pages, one more, no nodes", x.blocks(1) - of, 3);
        due("writes since", x.blocks(3), 0);
        BuiltIndex d = inState(5);
        lose(d);
        due("down", d.drop(), DOWN);
    }

    private static void promise9Lost() {
        sentence("Promise 9: LOST then: it stays published");
        // two pages, one more
        for (int at = 0; at <= 3; at++) {
            BuiltIndex x = eightLeaves();
            due("a leaf, page 4", x.add(5, 0), 48);
            due("a leaf, page 3", x.remove(47), 1);
            int all = x.blocks(0);
            int of = x.blocks(1);
            due("cut", x.cut(at, 0), 1);
            due("drop", x.drop(), at < 3 ? LOST : 5);
            if (at == 3) {
                dueNoIndex(x);
                continue;
            }
            due("blocks", x.blocks(0), all + at + 1);
            due("of checkpoints", x.blocks(1), of);
            due("writes since", x.blocks(3), 2);
            due("start", x.start(), 48);
            due("state", x.info(0), 5);
            dueTree(x, 11, 3, 48);
            due("two leaves, pages 0, 3, 4, one more", nextCheckpoint(x, 0), 6);
            due("drop", x.drop(), 5);
            dueNoIndex(x);
        }
    }

    private static void promise10() {
        sentence("Promise 10: So many STEPS (1 .. 1000), as long as it is 1 .. 4: its STATE then. DOWN,"
            + " OUTSIDE, LOST");
        int[] outside = {MIN, -1, 0, 1001, MAX};
        for (int state = 0; state <= 6; state++) {
            BuiltIndex x = inState(state);
            for (int n : outside) {
                due("step(" + n + ")", x.step(n), OUTSIDE);
            }
            due("no step was made", x.info(0), state);
            int[] next = {0, 1, 3, 4, 5, 5, 6};
            due("one", x.step(1), next[state]);
            int end = state == 0 || state == 6 ? state : 5;
            due("999", x.step(999), end);
            due("1000", x.step(1000), end);
        }
        for (int n = 22; n <= 24; n++) {
            BuiltIndex x = inState(1);
            due("so many as it is 1 .. 4", x.step(n), n == 22 ? 4 : 5);
        }
        BuiltIndex d = inState(4);
        lose(d);
        due("down", d.step(1), DOWN);
        due("down before outside", d.step(0), DOWN);
    }

    private static void promise10Lost() {
        sentence("Promise 10: LOST");
        // three rows: a run of one block, no merge, one leaf, a page and a node and one more
        for (int at = 0; at <= 5; at++) {
            BuiltIndex x = inState(1);
            due("cut", x.cut(at, 0), 1);
            due("step", x.step(1000), at < 5 ? LOST : 5);
            if (at < 5) {
                due("down", x.step(1), DOWN);
                dueBlocks(x, 3 + at + 1, 0, 0, 3);
                due("start", x.start(), 3);
                due("no step", x.step(1000), 0);
            }
        }
        BuiltIndex one = inState(1);
        due("cut", one.cut(0, 0), 1);
        due("19 pages have no block", one.step(19), 1);
        due("the last page", one.step(1), LOST);
        BuiltIndex late = inState(2);
        due("cut", late.cut(0, 0), 1);
        due("no merge, no block", late.step(1), 3);
        due("a leaf", late.step(1), LOST);
    }

    private static void promise11() {
        sentence("Promise 11: 0 for what it has not (2 to 5: in 1 .. 4 alone; 7, 8: of the tree in CATCH and"
            + " PUBLISHED; 6: in LOAD too). DOWN, OUTSIDE");
        int[] outside = {MIN, -1, 12, MAX};
        int[][] want = {
            {0, 0, 0, 0, 0, 0, 0, 0, 0, 0, NONE, NONE},
            {1, 1, 0, 0, 0, 0, 0, 0, 0, 0, NONE, NONE},
            {2, 1, 20, 1, 0, 0, 0, 0, 0, 0, NONE, NONE},
            {3, 1, 20, 1, 0, 0, 0, 0, 0, 0, NONE, NONE},
            {4, 1, 20, 1, 0, 0, 1, 1, 3, 0, NONE, NONE},
            {5, 1, 0, 0, 0, 0, 1, 1, 3, 0, NONE, NONE},
            {6, 1, 0, 0, 0, 0, 0, 0, 0, 3, 0, 1},
        };
        for (int state = 0; state <= 6; state++) {
            BuiltIndex x = inState(state);
            dueInfo(x, want[state]);
            for (int what : outside) {
                due("info(" + what + ")", x.info(what), OUTSIDE);
            }
            lose(x);
            due("down", x.info(0), DOWN);
            due("down", x.info(11), DOWN);
            due("down before outside", x.info(12), DOWN);
        }
        BuiltIndex x = tableOf(37, 1);
        due("build", x.build(false), 1);
        due("scan", x.step(4), 1);
        due("key", x.change(0, -1, 0), 1);
        dueInfo(x, 1, 0, 4, 1, 13, 2, 0, 0, 0, 0, NONE, NONE);
        due("load", x.step(16 + 2 + 9), 3);
        dueInfo(x, 3, 0, 20, 1, 0, 2, 9, 0, 0, 0, NONE, NONE);
        due("catch", x.step(1), 4);
        dueInfo(x, 4, 0, 20, 1, 0, 2, 10, 3, 37, 0, NONE, NONE);
        due("catch", x.step(1), 4);
        dueInfo(x, 4, 0, 20, 1, 0, 1, 10, 3, 36, 0, NONE, NONE);
        due("published", x.step(2), 5);
        dueInfo(x, 5, 0, 0, 0, 0, 0, 10, 3, 37, 0, NONE, NONE);
        due("key", x.change(0, -2, 0), 1);
        due("no log beside a published one", x.info(5), 0);
    }

    private static void promise11WhyStopped() {
        sentence("Promise 11: 9 why it STOPPED (0, 1, 2, 3), 10, 11 the places of two rows with one key then"
            + " (of the least key; the first two), NONE without");
        BuiltIndex x = new BuiltIndex();
        int[] keys = {9, 5, 7, 5, 9, 7, 5, MIN};
        for (int key : keys) {
            x.add(key, 0);
        }
        due("build", x.build(true), 1);
        due("stopped", x.step(1000), 6);
        dueInfo(x, 6, 1, 0, 0, 0, 0, 0, 0, 0, 3, 1, 3);
        due("remove", x.remove(1), 1);
        due("remove", x.remove(7), 1);
        due("those of then", x.info(10), 1);
        due("those of then", x.info(11), 3);
        due("build", x.build(true), 1);
        due("none now", x.info(9), 0);
        due("none now", x.info(10), NONE);
        due("none now", x.info(11), NONE);
        due("stopped", x.step(1000), 6);
        due("first", x.info(10), 3);
        due("second", x.info(11), 6);
        due("drop", x.drop(), 6);
        due("none now", x.info(9), 0);
        due("none now", x.info(10), NONE);

        BuiltIndex least = new BuiltIndex();
        int[] ends = {MAX, MIN, MAX, MIN};
        for (int key : ends) {
            least.add(key, 0);
        }
        due("build", least.build(true), 1);
        due("stopped", least.step(1000), 6);
        due("first", least.info(10), 1);
        due("second", least.info(11), 3);

        BuiltIndex log = tableOf(2, 0);
        due("build", log.build(true), 1);
        due("page 0", log.step(1), 1);
        for (int i = 0; i < 41; i++) {
            due("log", i % 2 == 0 ? log.remove(1) : log.add(0, 0), 1);
        }
        dueInfo(log, 6, 1, 0, 0, 0, 0, 0, 0, 0, 1, NONE, NONE);
        BuiltIndex nodes = ascending(201, 0);
        dueInfo(nodes, 6, 0, 0, 0, 0, 0, 0, 0, 0, 2, NONE, NONE);
    }

    private static void promise12() {
        sentence("Promise 12: The p-th entry of the tree (in CATCH, PUBLISHED) .. IllegalArgumentException:"
            + " there is none; IllegalStateException (first): DOWN");
        int[] outside = {MIN, -1, 3, 4, MAX};
        for (int state = 0; state <= 6; state++) {
            BuiltIndex x = inState(state);
            if (state == 4 || state == 5) {
                dueEntries(x, 10, 0, 20, 1, 30, 2);
            } else {
                dueArgument("first", () -> x.entry(0, false));
                dueArgument("last", () -> x.entry(2, true));
            }
            for (int p : outside) {
                dueArgument("entry(" + p + ")", () -> x.entry(p, false));
                dueArgument("entry(" + p + ")", () -> x.entry(p, true));
            }
            lose(x);
            dueState("down", () -> x.entry(0, false));
            for (int p : outside) {
                dueState("down first", () -> x.entry(p, true));
            }
        }
        BuiltIndex full = published(240, 10, true);
        due("last", full.entry(239, false), 2390);
        dueArgument("behind", () -> full.entry(240, false));
        due("remove", full.remove(0), 1);
        due("last", full.entry(238, true), 239);
        dueArgument("behind", () -> full.entry(239, true));
        BuiltIndex loading = inLoad(7);
        due("two leaves", loading.step(2), 3);
        dueArgument("no tree yet", () -> loading.entry(0, true));
        BuiltIndex empty = published(0, 0, false);
        dueArgument("none", () -> empty.entry(0, false));
    }

    private static void promise13() {
        sentence("Promise 13: How many entries the leaf has in which the p-th entry is. DOWN, UNKNOWN");
        int[] outside = {MIN, -1, 3, 4, MAX};
        for (int state = 0; state <= 6; state++) {
            BuiltIndex x = inState(state);
            boolean hasTree = state == 4 || state == 5;
            due("first", x.leaf(0), hasTree ? 3 : UNKNOWN);
            due("last", x.leaf(2), hasTree ? 3 : UNKNOWN);
            for (int p : outside) {
                due("leaf(" + p + ")", x.leaf(p), UNKNOWN);
            }
            lose(x);
            due("down", x.leaf(0), DOWN);
            due("down before unknown", x.leaf(-1), DOWN);
        }
        BuiltIndex x = published(15, 1, false);
        due("add", x.add(100, 0), 15);
        int[] want = {6, 6, 6, 6, 6, 6, 6, 6, 6, 6, 6, 6, 4, 4, 4, 4, UNKNOWN};
        for (int p = 0; p < want.length; p++) {
            due("leaf(" + p + ")", x.leaf(p), want[p]);
        }
        BuiltIndex empty = published(0, 0, false);
        due("none", empty.leaf(0), UNKNOWN);
    }

    private static void promise14() {
        sentence("Promise 14: How many rows have a key from low to high. DOWN");
        for (int state = 0; state <= 6; state++) {
            BuiltIndex x = inState(state);
            due("11 .. 19", x.ask(11, 19), 0);
            due("11 .. 20", x.ask(11, 20), 1);
            due("10 .. 19", x.ask(10, 19), 1);
            due("10 .. 30", x.ask(10, 30), 3);
            due("30 .. 10", x.ask(30, 10), 0);
            due("all", x.ask(MIN, MAX), 3);
            lose(x);
            due("down", x.ask(MIN, MAX), DOWN);
        }
    }

    private static void promise15() {
        sentence("Promise 15: The k-th place of the latest ask(); NONE");
        BuiltIndex x = inState(0);
        due("before any", x.answer(0), NONE);
        due("ask", x.ask(20, 30), 2);
        int[] outside = {MIN, -1, 2, 3, 240, MAX};
        for (int k : outside) {
            due("answer(" + k + ")", x.answer(k), NONE);
        }
        due("first", x.answer(0), 1);
        due("last", x.answer(1), 2);
        due("writes do not count", x.remove(1), 1);
        due("first", x.answer(0), 1);
        due("of the latest", x.ask(30, 30), 1);
        dueAnswers(x, 2);
        lose(x);
        dueAnswers(x, 2);
        due("refused", x.ask(10, 10), DOWN);
        dueAnswers(x, 2);
        due("start", x.start(), 2);
        dueAnswers(x, 2);
        due("none", x.ask(11, 11), 0);
        dueAnswers(x);
        BuiltIndex full = tableOf(240, 1);
        due("all", full.ask(MIN, MAX), 240);
        due("last", full.answer(239), 239);
        due("behind", full.answer(240), NONE);
    }

    private static void promise16() {
        sentence("Promise 16: What the latest ask() COST; 0 before any");
        BuiltIndex x = inState(4);
        due("before any", x.cost(), 0);
        due("ask", x.ask(5, 4), 0);
        due("table", x.cost(), 20);
        due("published", x.step(1), 5);
        due("latest", x.cost(), 20);
        due("ask", x.ask(5, 4), 0);
        due("index", x.cost(), 1);
        lose(x);
        due("down", x.cost(), 1);
        due("refused", x.ask(5, 4), DOWN);
        due("latest that was told", x.cost(), 1);
        due("start", x.start(), 3);
        due("latest", x.cost(), 1);
        due("drop", x.drop(), 5);
        due("latest", x.cost(), 1);
        BuiltIndex d = down();
        due("before any", d.cost(), 0);
        due("refused", d.ask(5, 4), DOWN);
        due("before any that was not refused", d.cost(), 0);
    }

    private static void promise17() {
        sentence("Promise 17: what = 0 all (the one at which power went, too), 1 those of CHECKPOINTS that were"
            + " made, 2 CHECKPOINTS that were made, 3 writes written down since the latest one. OUTSIDE");
        int[] outside = {MIN, -1, 4, MAX};
        BuiltIndex x = tableOf(30, 1);
        dueBlocks(x, 30, 0, 0, 30);
        // three pages, one more, the write
        for (int at = 0; at <= 4; at++) {
            due("cut", x.cut(0, 0), 1);
            due("lost", x.remove(0), LOST);
            dueBlocks(x, 31 + at, 0, 0, 30);
            for (int what : outside) {
                due("blocks(" + what + ")", x.blocks(what), OUTSIDE);
            }
            due("start", x.start(), 30);
            dueBlocks(x, 31 + at, 0, 0, 30);
        }
        due("cut", x.cut(4, 0), 1);
        due("the checkpoint is made, the write is not done", x.remove(0), LOST);
        dueBlocks(x, 40, 4, 1, 0);
        due("start", x.start(), 30);
        due("remove", x.remove(0), 1);
        dueBlocks(x, 41, 4, 1, 1);
        for (int what : outside) {
            due("blocks(" + what + ")", x.blocks(what), OUTSIDE);
        }
        BuiltIndex y = tableOf(8, 1);
        due("build", y.build(false), 1);
        due("cut", y.cut(3, 0), 1);
        due("a run, two leaves, then the root", y.step(1000), LOST);
        dueBlocks(y, 8 + 4, 0, 0, 8);
    }

    private static void promise18() {
        sentence("Promise 18: How many rows there are. DOWN");
        BuiltIndex x = new BuiltIndex();
        due("none", x.rows(), 0);
        due("add", x.add(1, 1), 0);
        due("one", x.rows(), 1);
        due("remove", x.remove(0), 1);
        due("none", x.rows(), 0);
        BuiltIndex full = tableOf(240, 1);
        due("full", full.rows(), 240);
        due("refused", full.add(1, 1), ROOM);
        due("full", full.rows(), 240);
        due("change", full.change(3, 1, 1), 1);
        due("full", full.rows(), 240);
        due("cut", full.cut(0, 63), 1);
        due("lost", full.remove(0), LOST);
        due("down", full.rows(), DOWN);
        due("start", full.start(), 240);
        due("full", full.rows(), 240);
    }

    private static void promise19() {
        sentence("Promise 19: How many of these are not so (it is always 0) .. DOWN");
        for (int state = 0; state <= 6; state++) {
            BuiltIndex x = inState(state);
            due("audit in " + state, x.audit(), 0);
            due("change", x.change(1, 5, 0), 1);
            due("audit in " + state, x.audit(), 0);
            due("remove", x.remove(0), 1);
            due("audit in " + state, x.audit(), 0);
            lose(x);
            due("down", x.audit(), DOWN);
            due("start", x.start(), 2);
            due("audit after " + state, x.audit(), 0);
        }
        BuiltIndex full = published(240, 10, true);
        due("audit", full.audit(), 0);
        for (int i = 0; i < 120; i++) {
            due("remove", full.remove(2 * i), 1);
            due("audit", full.audit(), 0);
        }
    }
}
