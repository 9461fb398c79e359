/**
 * A table on a disk that may lose power at any block, and an index that is built over it step by
 * step while rows come, change and go.
 *
 * <p>The rows are held once, as they are after all writes that were done: a write changes them only
 * when its block is whole, so a start after a loss finds them as they must be. Of the disk only the
 * counts are held, since a torn block (at most 63 words of 64) never counts as written down.
 */
public final class BuiltIndex {
    public static final int NONE = -1, DOWN = -100, UNKNOWN = -101, OUTSIDE = -102, STATE = -103, ROOM = -104, DUPLICATE = -105, LOST = -106;

    private static final int PLACES = 240;
    private static final int PLACES_A_PAGE = 12;
    private static final int PAGES = 20;
    private static final int WORDS_A_BLOCK = 64;
    private static final int WRITES_A_CHECKPOINT = 30;

    private static final int NO_INDEX = 0;
    private static final int SCAN = 1;
    private static final int MERGE = 2;
    private static final int LOAD = 3;
    private static final int CATCH = 4;
    private static final int PUBLISHED = 5;
    private static final int STOPPED = 6;

    private static final int LOG_FULL = 1;
    private static final int NODES_FULL = 2;
    private static final int TWO_WITH_ONE_KEY = 3;

    private static final int ENOUGH_FOR_A_RUN = 24;
    private static final int ENTRIES_A_BLOCK = 8;
    private static final int LOADED_A_NODE = 6;
    private static final int MOST_IN_LOG = 40;
    private static final int MOST_NODES = 64;
    private static final int MOST_IN_NODE = 8;
    private static final int STAY_IN_NODE = 4;

    private static final int LAST_INFO = 11;
    private static final int LAST_BLOCKS = 3;
    private static final int LAST_CUT = 1000;
    private static final int MOST_STEPS = 1000;

    private final Table table = new Table();
    private final Disk disk = new Disk();

    private int state = NO_INDEX;
    private boolean unique = false;
    private int nextPage = 0;
    private int whyStopped = 0;
    private int firstTwin = NONE;
    private int secondTwin = NONE;
    private final Runs runs = new Runs();
    private final Loader loader = new Loader();
    private final LogBeside log = new LogBeside();
    private final Tree tree = new Tree();

    private final int[] told = new int[PLACES];
    private int toldCount = 0;
    private int latestCost = 0;

    public BuiltIndex() {
    }

    // ---- the table

    public int add(int key, int value) {
        if (disk.isDown()) {
            return DOWN;
        }
        int place = table.firstFree();
        if (place == NONE) {
            return ROOM;
        }
        if (wouldRepeat(key, place)) {
            return DUPLICATE;
        }
        if (!writeDown()) {
            return LOST;
        }
        table.put(place, key, value);
        follow(entryOf(key, place), true);
        return place;
    }

    public int change(int place, int key, int value) {
        if (disk.isDown()) {
            return DOWN;
        }
        if (!table.has(place)) {
            return UNKNOWN;
        }
        if (wouldRepeat(key, place)) {
            return DUPLICATE;
        }
        if (!writeDown()) {
            return LOST;
        }
        int oldKey = table.keyAt(place);
        table.put(place, key, value);
        if (oldKey != key) {
            follow(entryOf(oldKey, place), false);
            follow(entryOf(key, place), true);
        }
        return 1;
    }

    public int remove(int place) {
        if (disk.isDown()) {
            return DOWN;
        }
        if (!table.has(place)) {
            return UNKNOWN;
        }
        if (!writeDown()) {
            return LOST;
        }
        int oldKey = table.keyAt(place);
        table.clearPlace(place);
        follow(entryOf(oldKey, place), false);
        return 1;
    }

    public int row(int place, boolean value) throws IllegalStateException, IllegalArgumentException {
        if (disk.isDown()) {
            throw new IllegalStateException("there is no power");
        }
        if (!table.has(place)) {
            throw new IllegalArgumentException("there is no row");
        }
        return value ? table.valueAt(place) : table.keyAt(place);
    }

    public int rows() {
        return disk.isDown() ? DOWN : table.count();
    }

    // ---- power

    public int cut(int n, int tear) {
        if (disk.isDown()) {
            return DOWN;
        }
        if (n < NONE || n > LAST_CUT || tear < 0 || tear >= WORDS_A_BLOCK) {
            return OUTSIDE;
        }
        disk.setLoss(n);
        return 1;
    }

    public int start() {
        if (!disk.isDown()) {
            return STATE;
        }
        disk.powerUp();
        return table.count();
    }

    public int blocks(int what) {
        if (what < 0 || what > LAST_BLOCKS) {
            return OUTSIDE;
        }
        return disk.countOf(what);
    }

    // ---- the index

    public int build(boolean unique) {
        if (disk.isDown()) {
            return DOWN;
        }
        if (state != NO_INDEX && state != STOPPED) {
            return STATE;
        }
        forgetIndex();
        this.unique = unique;
        state = SCAN;
        return 1;
    }

    public int drop() {
        if (disk.isDown()) {
            return DOWN;
        }
        int before = state;
        if (before == PUBLISHED && !makeCheckpoint(0)) {
            return LOST;
        }
        forgetIndex();
        return before;
    }

    public int step(int n) {
        if (disk.isDown()) {
            return DOWN;
        }
        if (n < 1 || n > MOST_STEPS) {
            return OUTSIDE;
        }
        boolean hasPower = true;
        for (int i = 0; i < n && hasPower && isBuilding(); i++) {
            switch (state) {
                case SCAN:
                    hasPower = scanPage();
                    break;
                case MERGE:
                    hasPower = mergeRuns();
                    break;
                case LOAD:
                    hasPower = loadNode();
                    break;
                default:
                    hasPower = catchUp();
                    break;
            }
        }
        return hasPower ? state : LOST;
    }

    public int info(int what) {
        if (disk.isDown()) {
            return DOWN;
        }
        if (what < 0 || what > LAST_INFO) {
            return OUTSIDE;
        }
        switch (what) {
            case 0:
                return state;
            case 1:
                return unique ? 1 : 0;
            case 2:
                return nextPage;
            case 3:
                return runs.count();
            case 4:
                return runs.pickedCount();
            case 5:
                return log.count();
            case 6:
                return tree.nodeCount();
            case 7:
                return hasTree() ? tree.levels() : 0;
            case 8:
                return hasTree() ? tree.entryCount() : 0;
            case 9:
                return whyStopped;
            case 10:
                return firstTwin;
            default:
                return secondTwin;
        }
    }

    public int entry(int p, boolean place) throws IllegalStateException, IllegalArgumentException {
        if (disk.isDown()) {
            throw new IllegalStateException("there is no power");
        }
        if (!isEntryOfTree(p)) {
            throw new IllegalArgumentException("there is no such entry");
        }
        long found = tree.entryAt(p);
        return place ? placeOf(found) : keyOf(found);
    }

    public int leaf(int p) {
        if (disk.isDown()) {
            return DOWN;
        }
        return isEntryOfTree(p) ? tree.sizeOfLeafAt(p) : UNKNOWN;
    }

    public int audit() {
        if (disk.isDown()) {
            return DOWN;
        }
        int faults = 0;
        if (state == PUBLISHED && !tree.hasJustTheRowsOf(table)) {
            faults++;
        }
        if (hasTree() && !tree.sizesAreRight()) {
            faults++;
        }
        if (hasTree() && !tree.leavesAreInOneRow()) {
            faults++;
        }
        return faults;
    }

    // ---- questions

    public int ask(int low, int high) {
        if (disk.isDown()) {
            return DOWN;
        }
        if (state == PUBLISHED) {
            latestCost = tree.costOf(low, high);
            toldCount = tree.tell(low, high, told);
        } else {
            latestCost = PAGES;
            toldCount = table.tell(low, high, told);
        }
        return toldCount;
    }

    public int answer(int k) {
        return k >= 0 && k < toldCount && k < told.length ? told[k] : NONE;
    }

    public int cost() {
        return latestCost;
    }

    // ---- entries: a key and a place in one number, so that numbers have the order of entries

    private static long entryOf(int key, int place) {
        return ((long) key << 8) | place;
    }

    private static int keyOf(long entry) {
        return (int) (entry >> 8);
    }

    private static int placeOf(long entry) {
        return (int) (entry & 255L);
    }

    // ---- what writes do

    private boolean wouldRepeat(int key, int place) {
        return state == PUBLISHED && unique && table.hasKeyBeside(key, place);
    }

    private boolean writeDown() {
        if (disk.writesSinceCheckpoint() >= WRITES_A_CHECKPOINT) {
            int nodeBlocks = state == PUBLISHED ? tree.touchedCount() : 0;
            if (!makeCheckpoint(nodeBlocks)) {
                return false;
            }
        }
        if (!putBlocks(1)) {
            return false;
        }
        disk.noteWrite();
        return true;
    }

    private boolean makeCheckpoint(int nodeBlocks) {
        int all = table.touchedPages() + nodeBlocks + 1;
        if (!putBlocks(all)) {
            return false;
        }
        disk.noteCheckpoint(all);
        table.untouch();
        tree.untouch();
        return true;
    }

    /** False if power went: then what is not published is gone. */
    private boolean putBlocks(int n) {
        if (disk.put(n)) {
            return true;
        }
        if (state != PUBLISHED) {
            forgetIndex();
        }
        return false;
    }

    private void follow(long entry, boolean comes) {
        if (state == PUBLISHED) {
            bringToTree(entry, comes);
        } else if (isBuilding() && placeOf(entry) / PLACES_A_PAGE < nextPage) {
            if (!log.append(entry, comes)) {
                stopBuilding(LOG_FULL);
            }
        }
    }

    private void bringToTree(long entry, boolean comes) {
        if (!comes) {
            tree.letGo(entry);
        } else if (!tree.letCome(entry)) {
            stopBuilding(NODES_FULL);
        }
    }

    // ---- steps

    private boolean isBuilding() {
        return state >= SCAN && state <= CATCH;
    }

    private boolean hasTree() {
        return state == CATCH || state == PUBLISHED;
    }

    private boolean isEntryOfTree(int p) {
        return hasTree() && p >= 0 && p < tree.entryCount();
    }

    private void forgetIndex() {
        state = NO_INDEX;
        unique = false;
        whyStopped = 0;
        firstTwin = NONE;
        secondTwin = NONE;
        forgetBuilding();
        tree.clear();
    }

    private void forgetBuilding() {
        nextPage = 0;
        runs.clear();
        log.clear();
    }

    private void stopBuilding(int why) {
        state = STOPPED;
        whyStopped = why;
        forgetBuilding();
        tree.clear();
    }

    // each of the four kinds of step answers false if power went

    private boolean scanPage() {
        int first = nextPage * PLACES_A_PAGE;
        for (int place = first; place < first + PLACES_A_PAGE; place++) {
            if (table.has(place)) {
                runs.pick(entryOf(table.keyAt(place), place));
            }
        }
        nextPage++;
        boolean last = nextPage >= PAGES;
        if (last) {
            state = MERGE;
        }
        int picked = runs.pickedCount();
        if (picked >= ENOUGH_FOR_A_RUN || last && picked > 0) {
            runs.closeRun();
            return putBlocks(blocksFor(picked));
        }
        return true;
    }

    private boolean mergeRuns() {
        if (runs.count() >= 2) {
            return putBlocks(blocksFor(runs.mergeFirstTwo()));
        }
        state = LOAD;
        loader.begin(runs.total());
        return true;
    }

    private static int blocksFor(int entries) {
        return (entries + ENTRIES_A_BLOCK - 1) / ENTRIES_A_BLOCK;
    }

    private boolean loadNode() {
        if (tree.nodeCount() >= MOST_NODES) {
            stopBuilding(NODES_FULL);
            return true;
        }
        if (loader.makeNode(tree, runs)) {
            state = CATCH;
        }
        return putBlocks(1);
    }

    private boolean catchUp() {
        if (log.count() > 0) {
            long entry = log.firstEntry();
            boolean comes = log.firstComes();
            log.takeFirst();
            bringToTree(entry, comes);
            return true;
        }
        int twin = unique ? tree.firstTwin() : NONE;
        if (twin != NONE) {
            firstTwin = placeOf(tree.entryAt(twin));
            secondTwin = placeOf(tree.entryAt(twin + 1));
            stopBuilding(TWO_WITH_ONE_KEY);
            return true;
        }
        if (!makeCheckpoint(tree.nodeCount())) {
            return false;
        }
        // not before the checkpoint is made: a loss in it must leave nothing published
        state = PUBLISHED;
        forgetBuilding();
        return true;
    }

    /** The rows at their places, and which pages were written since the latest checkpoint. */
    private static final class Table {
        private final int[] keys = new int[PLACES];
        private final int[] values = new int[PLACES];
        private final boolean[] present = new boolean[PLACES];
        private final boolean[] touched = new boolean[PAGES];
        private int count = 0;

        int count() {
            return count;
        }

        boolean has(int place) {
            return place >= 0 && place < PLACES && present[place];
        }

        int keyAt(int place) {
            return has(place) ? keys[place] : 0;
        }

        int valueAt(int place) {
            return has(place) ? values[place] : 0;
        }

        int firstFree() {
            for (int place = 0; place < PLACES; place++) {
                if (!present[place]) {
                    return place;
                }
            }
            return NONE;
        }

        boolean hasKeyBeside(int key, int place) {
            for (int other = 0; other < PLACES; other++) {
                if (other != place && present[other] && keys[other] == key) {
                    return true;
                }
            }
            return false;
        }

        void put(int place, int key, int value) {
            if (place < 0 || place >= PLACES) {
                return;
            }
            if (!present[place]) {
                present[place] = true;
                count++;
            }
            keys[place] = key;
            values[place] = value;
            touched[place / PLACES_A_PAGE] = true;
        }

        void clearPlace(int place) {
            if (has(place)) {
                present[place] = false;
                count--;
                touched[place / PLACES_A_PAGE] = true;
            }
        }

        int tell(int low, int high, int[] out) {
            int n = 0;
            for (int place = 0; place < PLACES && n < out.length; place++) {
                if (present[place] && keys[place] >= low && keys[place] <= high) {
                    out[n] = place;
                    n++;
                }
            }
            return n;
        }

        int touchedPages() {
            int n = 0;
            for (int page = 0; page < PAGES; page++) {
                if (touched[page]) {
                    n++;
                }
            }
            return n;
        }

        void untouch() {
            for (int page = 0; page < PAGES; page++) {
                touched[page] = false;
            }
        }
    }

    /** The power, and how many blocks were written. */
    private static final class Disk {
        private boolean down = false;
        private int blocksTillLoss = NONE;
        private int allBlocks = 0;
        private int checkpointBlocks = 0;
        private int checkpoints = 0;
        private int writesSince = 0;

        boolean isDown() {
            return down;
        }

        void setLoss(int n) {
            blocksTillLoss = n;
        }

        void powerUp() {
            down = false;
            blocksTillLoss = NONE;
        }

        /** Writes so many blocks, or as many as there is power for: false if it went. */
        boolean put(int n) {
            for (int i = 0; i < n; i++) {
                allBlocks++;
                if (blocksTillLoss == 0) {
                    down = true;
                    return false;
                }
                if (blocksTillLoss > 0) {
                    blocksTillLoss--;
                }
            }
            return true;
        }

        void noteWrite() {
            writesSince++;
        }

        void noteCheckpoint(int itsBlocks) {
            checkpointBlocks += itsBlocks;
            checkpoints++;
            writesSince = 0;
        }

        int writesSinceCheckpoint() {
            return writesSince;
        }

        int countOf(int what) {
            switch (what) {
                case 0:
                    return allBlocks;
                case 1:
                    return checkpointBlocks;
                case 2:
                    return checkpoints;
                default:
                    return writesSince;
            }
        }
    }

    /** What the scan picked, and the runs: one behind the other in one array. */
    private static final class Runs {
        private final long[] picked = new long[ENOUGH_FOR_A_RUN + PLACES_A_PAGE];
        private int pickedCount = 0;
        private final long[] sorted = new long[PLACES];
        private final long[] merged = new long[PLACES];
        private int total = 0;
        private final int[] lengths = new int[PLACES / ENOUGH_FOR_A_RUN + 1];
        private int count = 0;

        void clear() {
            pickedCount = 0;
            total = 0;
            count = 0;
        }

        int count() {
            return count;
        }

        int pickedCount() {
            return pickedCount;
        }

        int total() {
            return total;
        }

        long entryAt(int i) {
            return i >= 0 && i < total ? sorted[i] : 0L;
        }

        /** What is picked is sorted at once, so that a run need only be copied. */
        void pick(long entry) {
            if (pickedCount >= picked.length) {
                return;
            }
            int at = pickedCount;
            while (at > 0 && picked[at - 1] > entry) {
                picked[at] = picked[at - 1];
                at--;
            }
            picked[at] = entry;
            pickedCount++;
        }

        void closeRun() {
            if (count >= lengths.length || total + pickedCount > sorted.length) {
                return;
            }
            System.arraycopy(picked, 0, sorted, total, pickedCount);
            total += pickedCount;
            lengths[count] = pickedCount;
            count++;
            pickedCount = 0;
        }

        /** How many entries the run has that the first two became. */
        int mergeFirstTwo() {
            if (count < 2) {
                return 0;
            }
            int both = lengths[0] + lengths[1];
            mergeInto(lengths[0], both);
            System.arraycopy(sorted, both, sorted, 0, total - both);
            System.arraycopy(merged, 0, sorted, total - both, both);
            for (int i = 2; i < count; i++) {
                lengths[i - 2] = lengths[i];
            }
            lengths[count - 2] = both;
            count--;
            return both;
        }

        private void mergeInto(int middle, int end) {
            int left = 0;
            int right = middle;
            for (int i = 0; i < end; i++) {
                if (right >= end || left < middle && sorted[left] < sorted[right]) {
                    merged[i] = sorted[left];
                    left++;
                } else {
                    merged[i] = sorted[right];
                    right++;
                }
            }
        }
    }

    /** Makes the nodes of a new tree. Their numbers go up one by one, so a row is a span of numbers. */
    private static final class Loader {
        private boolean makesLeaves = true;
        private int next = 0;
        private int end = 0;
        private int rowBegin = 0;

        void begin(int entries) {
            makesLeaves = true;
            next = 0;
            end = entries;
            rowBegin = 0;
        }

        /** True if the node that it made is the root. */
        boolean makeNode(Tree tree, Runs runs) {
            int node = tree.newNode(!makesLeaves);
            if (node == NONE) {
                return false;
            }
            for (int i = 0; i < LOADED_A_NODE && next < end; i++) {
                tree.append(node, makesLeaves ? runs.entryAt(next) : next);
                next++;
            }
            if (next < end) {
                return false;
            }
            if (node == rowBegin) {
                tree.finishLoad(node, runs.total());
                return true;
            }
            makesLeaves = false;
            next = rowBegin;
            end = node + 1;
            rowBegin = end;
            return false;
        }
    }

    /** What writes did to scanned pages, the oldest first, in a ring. */
    private static final class LogBeside {
        private final long[] entries = new long[MOST_IN_LOG];
        private final boolean[] comes = new boolean[MOST_IN_LOG];
        private int first = 0;
        private int count = 0;

        void clear() {
            first = 0;
            count = 0;
        }

        int count() {
            return count;
        }

        boolean append(long entry, boolean itComes) {
            if (count >= MOST_IN_LOG) {
                return false;
            }
            int at = (first + count) % MOST_IN_LOG;
            entries[at] = entry;
            comes[at] = itComes;
            count++;
            return true;
        }

        long firstEntry() {
            return entries[first];
        }

        boolean firstComes() {
            return comes[first];
        }

        void takeFirst() {
            if (count > 0) {
                first = (first + 1) % MOST_IN_LOG;
                count--;
            }
        }
    }

    /**
     * The tree, in rows that are made once. A node holds entries if it is a leaf, else the numbers
     * of the nodes below it; both are longs, so that they come, go and are divided by the same code.
     */
    private static final class Tree {
        private final long[][] held = new long[MOST_NODES][MOST_IN_NODE + 1];
        private final int[] size = new int[MOST_NODES];
        private final boolean[] overNodes = new boolean[MOST_NODES];
        private final boolean[] used = new boolean[MOST_NODES];
        private final boolean[] touched = new boolean[MOST_NODES];
        private int nodeCount = 0;
        private int entryCount = 0;
        private int root = 0;

        // the latest way down: its nodes, and where each one is in the node over it
        private final int[] way = new int[MOST_NODES];
        private final int[] wayAt = new int[MOST_NODES];
        private int wayEnd = 0;

        // the latest list of nodes of one row, from the left, and room for the row below it
        private final int[] listed = new int[MOST_NODES];
        private final int[] below = new int[MOST_NODES];

        void clear() {
            for (int node = 0; node < MOST_NODES; node++) {
                used[node] = false;
                overNodes[node] = false;
                size[node] = 0;
            }
            nodeCount = 0;
            entryCount = 0;
            root = 0;
        }

        int nodeCount() {
            return nodeCount;
        }

        int entryCount() {
            return entryCount;
        }

        int touchedCount() {
            int n = 0;
            for (int node = 0; node < MOST_NODES; node++) {
                if (used[node] && touched[node]) {
                    n++;
                }
            }
            return n;
        }

        void untouch() {
            for (int node = 0; node < MOST_NODES; node++) {
                touched[node] = false;
            }
        }

        // ---- nodes

        /** The number of a new node, the least that is free; NONE if there are too many. */
        int newNode(boolean isOverNodes) {
            for (int node = 0; node < MOST_NODES; node++) {
                if (!used[node]) {
                    used[node] = true;
                    overNodes[node] = isOverNodes;
                    touched[node] = true;
                    size[node] = 0;
                    nodeCount++;
                    return node;
                }
            }
            return NONE;
        }

        private void freeNode(int node) {
            used[node] = false;
            overNodes[node] = false;
            size[node] = 0;
            nodeCount--;
        }

        void append(int node, long what) {
            if (node >= 0 && node < MOST_NODES) {
                putIn(node, size[node], what);
            }
        }

        void finishLoad(int node, int entries) {
            root = node;
            entryCount = entries;
        }

        private void putIn(int node, int at, long what) {
            if (at < 0 || at > size[node] || size[node] > MOST_IN_NODE) {
                return;
            }
            for (int i = size[node]; i > at; i--) {
                held[node][i] = held[node][i - 1];
            }
            held[node][at] = what;
            size[node]++;
            touched[node] = true;
        }

        private void takeOut(int node, int at) {
            if (at < 0 || at >= size[node]) {
                return;
            }
            for (int i = at; i < size[node] - 1; i++) {
                held[node][i] = held[node][i + 1];
            }
            size[node]--;
            touched[node] = true;
        }

        private int kidOf(int node, int at) {
            long kid = at >= 0 && at < size[node] ? held[node][at] : 0L;
            return kid >= 0 && kid < MOST_NODES ? (int) kid : 0;
        }

        private long leastOf(int node) {
            int low = node;
            for (int deep = 0; deep < MOST_NODES && overNodes[low]; deep++) {
                low = kidOf(low, 0);
            }
            return held[low][0];
        }

        // ---- entries come and go

        private void goDown(long entry) {
            int node = root;
            wayEnd = 0;
            way[0] = root;
            wayAt[0] = 0;
            while (overNodes[node] && wayEnd < MOST_NODES - 1) {
                int at = size[node] - 1;
                while (at > 0 && leastOf(kidOf(node, at)) > entry) {
                    at--;
                }
                node = kidOf(node, at);
                wayEnd++;
                way[wayEnd] = node;
                wayAt[wayEnd] = at;
            }
        }

        /** False, and nothing is done, if there would be too many nodes. */
        boolean letCome(long entry) {
            goDown(entry);
            if (nodeCount + newNodesOnWay() > MOST_NODES) {
                return false;
            }
            int leaf = way[wayEnd];
            int at = size[leaf];
            while (at > 0 && held[leaf][at - 1] > entry) {
                at--;
            }
            putIn(leaf, at, entry);
            entryCount++;
            for (int deep = wayEnd; deep >= 0 && size[way[deep]] > MOST_IN_NODE; deep--) {
                divide(deep);
            }
            return true;
        }

        private int newNodesOnWay() {
            int n = 0;
            for (int deep = wayEnd; deep >= 0; deep--) {
                if (size[way[deep]] < MOST_IN_NODE) {
                    return n;
                }
                n++;
            }
            return n + 1;
        }

        private void divide(int deep) {
            int left = way[deep];
            int right = newNode(overNodes[left]);
            if (right == NONE) {
                return;
            }
            for (int i = STAY_IN_NODE; i < size[left]; i++) {
                putIn(right, i - STAY_IN_NODE, held[left][i]);
            }
            size[left] = STAY_IN_NODE;
            touched[left] = true;
            if (deep > 0) {
                putIn(way[deep - 1], wayAt[deep] + 1, right);
            } else {
                putRootOver(left, right);
            }
        }

        private void putRootOver(int left, int right) {
            int top = newNode(true);
            if (top == NONE) {
                return;
            }
            putIn(top, 0, left);
            putIn(top, 1, right);
            root = top;
        }

        void letGo(long entry) {
            goDown(entry);
            int leaf = way[wayEnd];
            int at = 0;
            while (at < size[leaf] && held[leaf][at] != entry) {
                at++;
            }
            if (at >= size[leaf]) {
                return;
            }
            takeOut(leaf, at);
            entryCount--;
            for (int deep = wayEnd; deep > 0 && size[way[deep]] == 0; deep--) {
                freeNode(way[deep]);
                takeOut(way[deep - 1], wayAt[deep]);
            }
            for (int i = 0; i < MOST_NODES && overNodes[root] && size[root] == 1; i++) {
                int old = root;
                root = kidOf(old, 0);
                freeNode(old);
            }
        }

        // ---- what is asked of the tree

        int levels() {
            int node = root;
            int n = 1;
            while (overNodes[node] && n < MOST_NODES) {
                node = kidOf(node, 0);
                n++;
            }
            return n;
        }

        /** Lists the leaves from the left: how many. */
        private int listLeaves() {
            listed[0] = root;
            int n = 1;
            for (int deep = 0; deep < MOST_NODES && overNodes[listed[0]]; deep++) {
                n = listRowBelow(n);
            }
            return n;
        }

        private int listRowBelow(int n) {
            int m = 0;
            for (int i = 0; i < n; i++) {
                int node = listed[i];
                for (int at = 0; at < size[node] && m < MOST_NODES; at++) {
                    below[m] = kidOf(node, at);
                    m++;
                }
            }
            System.arraycopy(below, 0, listed, 0, m);
            return m;
        }

        /** The least entry if there is no p-th one: callers ask for entries that are there. */
        long entryAt(int p) {
            int left = p;
            int n = listLeaves();
            for (int i = 0; i < n; i++) {
                int leaf = listed[i];
                if (left >= 0 && left < size[leaf]) {
                    return held[leaf][left];
                }
                left -= size[leaf];
            }
            return leastOf(root);
        }

        int sizeOfLeafAt(int p) {
            int left = p;
            int n = listLeaves();
            for (int i = 0; i < n; i++) {
                int leaf = listed[i];
                if (left < size[leaf]) {
                    return size[leaf];
                }
                left -= size[leaf];
            }
            return 0;
        }

        /** Which is the first entry with the key of the one behind it; NONE if there is none. */
        int firstTwin() {
            int n = listLeaves();
            int p = 0;
            long before = 0L;
            for (int i = 0; i < n; i++) {
                int leaf = listed[i];
                for (int at = 0; at < size[leaf]; at++) {
                    long entry = held[leaf][at];
                    if (p > 0 && keyOf(before) == keyOf(entry)) {
                        return p - 1;
                    }
                    before = entry;
                    p++;
                }
            }
            return NONE;
        }

        int tell(int low, int high, int[] out) {
            int n = listLeaves();
            int m = 0;
            for (int i = 0; i < n; i++) {
                int leaf = listed[i];
                for (int at = 0; at < size[leaf] && m < out.length; at++) {
                    int key = keyOf(held[leaf][at]);
                    if (key >= low && key <= high) {
                        out[m] = placeOf(held[leaf][at]);
                        m++;
                    }
                }
            }
            return m;
        }

        int costOf(int low, int high) {
            goDown(entryOf(low, 0));
            int firstLeaf = way[wayEnd];
            int cost = wayEnd + 1;
            int n = listLeaves();
            boolean isRight = false;
            for (int i = 0; i < n; i++) {
                int leaf = listed[i];
                if (isRight && keyOf(held[leaf][0]) <= high) {
                    cost++;
                }
                isRight = isRight || leaf == firstLeaf;
            }
            return cost;
        }

        // ---- the audit

        boolean hasJustTheRowsOf(Table table) {
            int n = listLeaves();
            int p = 0;
            long before = 0L;
            for (int i = 0; i < n; i++) {
                int leaf = listed[i];
                for (int at = 0; at < size[leaf]; at++) {
                    long entry = held[leaf][at];
                    int place = placeOf(entry);
                    if (p > 0 && before >= entry || !table.has(place) || table.keyAt(place) != keyOf(entry)) {
                        return false;
                    }
                    before = entry;
                    p++;
                }
            }
            return p == table.count() && p == entryCount;
        }

        boolean sizesAreRight() {
            for (int node = 0; node < MOST_NODES; node++) {
                int least = node == root && !overNodes[node] ? 0 : 1;
                if (used[node] && (size[node] < least || size[node] > MOST_IN_NODE)) {
                    return false;
                }
            }
            return true;
        }

        boolean leavesAreInOneRow() {
            listed[0] = root;
            int n = 1;
            for (int deep = 0; deep < MOST_NODES; deep++) {
                for (int i = 1; i < n; i++) {
                    if (overNodes[listed[i]] != overNodes[listed[0]]) {
                        return false;
                    }
                }
                if (!overNodes[listed[0]]) {
                    return true;
                }
                n = listRowBelow(n);
            }
            return false;
        }
    }
}
