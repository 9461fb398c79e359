import java.util.ArrayList;
import java.util.Arrays;
import java.util.Collections;
import java.util.Comparator;
import java.util.IdentityHashMap;
import java.util.List;
import java.util.Map;
import java.util.Random;
import java.util.Set;
import java.util.TreeMap;
import java.util.TreeSet;

/**
 * Runs of 512 calls, drawn from fixed seeds, on BuiltIndex and on a plain model. The model holds
 * trees of lists, and after a loss it brings table and index back from the copy that its latest
 * checkpoint made and from the writes behind it.
 */
public final class ModelTests {
    private static final int RUNS = 3000;
    private static final int CALLS = 512;

    private static final int NONE = -1;
    private static final int DOWN = -100;
    private static final int UNKNOWN = -101;
    private static final int OUTSIDE = -102;
    private static final int STATE = -103;
    private static final int ROOM = -104;
    private static final int DUPLICATE = -105;
    private static final int LOST = -106;
    // stand for the exceptions, in answers that are told as texts
    private static final String ARGUMENT = "throws.IllegalArgumentException";
    private static final String NO_POWER = "throws.IllegalStateException";

    private static final Map<String, Integer> seen = new TreeMap<>();

    public static void main(String[] args) {
        int wrong = 0;
        for (int run = 0; run < RUNS && wrong < 10; run++) {
            if (!new Run(run).isRight()) {
                wrong++;
            }
        }
        String[] mustBeSeen = {
            "add ROOM", "add DUPLICATE", "add LOST", "change UNKNOWN", "change DUPLICATE", "change LOST",
            "remove UNKNOWN", "remove LOST", "cut OUTSIDE", "build STATE", "drop LOST", "step LOST in 1",
            "step LOST in 2", "step LOST in 3", "step LOST in 4", "stopped 1", "stopped 2 in 4",
            "stopped 2 in 5", "stopped 3", "published", "checkpoint lost", "back in 5", "back in 0",
            "index gone by writes since", "levels 1", "levels 2", "levels 3", "levels 4", "root gone",
        };
        for (String what : mustBeSeen) {
            if (!seen.containsKey(what)) {
                System.out.println("the runs never met: " + what);
                wrong++;
            }
        }
        System.out.println(wrong == 0 ? "all runs are as the model" : wrong + " faults; met: " + seen);
        if (wrong != 0) {
            System.exit(1);
        }
    }

    private static void note(String what) {
        seen.merge(what, 1, Integer::sum);
    }

    // ---- one run

    private static final class Run {
        final int number;
        final Random random;
        final BuiltIndex real = new BuiltIndex();
        final Model model = new Model();
        final int keySpan;
        final int rising;
        final int stepSpan;
        final int[] weights = new int[8];
        int nextKey = 0;

        Run(int number) {
            this.number = number;
            random = new Random(number * 7919L + 17);
            int[] spans = {3, 40, 300, 5000, 0};
            keySpan = spans[random.nextInt(spans.length)];
            rising = random.nextInt(3) == 0 ? 90 : random.nextInt(20);
            int[] steps = {1, 3, 30, 1000};
            stepSpan = steps[random.nextInt(steps.length)];
            int[] most = {60, 40, 40, 3, 6, 2, 30, 40};
            for (int i = 0; i < most.length; i++) {
                weights[i] = random.nextInt(most[i] + 1);
            }
            weights[0] += 5;
            weights[4] += 1;
            weights[6] += 1;
            if (random.nextInt(3) == 0) {
                weights[3] = 0;
            }
        }

        boolean isRight() {
            for (int call = 0; call < CALLS; call++) {
                String told = call < CALLS - 40 ? drawnCall() : dumpCall(call - (CALLS - 40));
                if (told != null) {
                    System.out.println("run " + number + ", call " + call + ": " + told);
                    return false;
                }
            }
            return true;
        }

        /** Null if both answer alike, else what they answered. */
        String drawnCall() {
            if (model.down && random.nextInt(3) == 0) {
                return alike("start()", text(real.start()), text(model.start()));
            }
            int sum = Arrays.stream(weights).sum();
            int at = random.nextInt(sum);
            int which = 0;
            while (at >= weights[which]) {
                at -= weights[which];
                which++;
            }
            switch (which) {
                case 0:
                    return callAdd();
                case 1:
                    return callChange();
                case 2:
                    return callRemove();
                case 3:
                    return callCut();
                case 4:
                    boolean unique = random.nextInt(3) == 0;
                    return alike("build(" + unique + ")", text(real.build(unique)), text(model.build(unique)));
                case 5:
                    return alike("drop()", text(real.drop()), text(model.drop()));
                case 6:
                    return callStep();
                default:
                    return callQuestion();
            }
        }

        String callAdd() {
            int key = drawKey();
            int value = random.nextInt();
            return alike("add(" + key + ")", text(real.add(key, value)), text(model.add(key, value)));
        }

        String callChange() {
            int place = drawPlace();
            int key = random.nextInt(4) == 0 && model.rows.containsKey(place) ? model.rows.get(place)[0] : drawKey();
            int value = random.nextInt();
            return alike("change(" + place + ", " + key + ")", text(real.change(place, key, value)),
                    text(model.change(place, key, value)));
        }

        String callRemove() {
            int place = drawPlace();
            return alike("remove(" + place + ")", text(real.remove(place)), text(model.remove(place)));
        }

        String callCut() {
            int[] spans = {3, 12, 60, 1004};
            int n = random.nextInt(spans[random.nextInt(spans.length)]) - 2;
            int tear = random.nextInt(68) - 2;
            return alike("cut(" + n + ", " + tear + ")", text(real.cut(n, tear)), text(model.cut(n, tear)));
        }

        String callStep() {
            int n = random.nextInt(stepSpan) + 1;
            if (random.nextInt(40) == 0) {
                n = random.nextInt(3) - 1;
            } else if (rising > 50 && model.state == 4 && !model.log.isEmpty()) {
                n = model.log.size();
            }
            return alike("step(" + n + ")", text(real.step(n)), text(model.step(n)));
        }

        String callQuestion() {
            int p = random.nextInt(20) == 0 ? random.nextInt() : random.nextInt(260) - 5;
            boolean flag = random.nextBoolean();
            switch (random.nextInt(10)) {
                case 0:
                    return alike("row", textOfRow(p, flag), model.row(p, flag));
                case 1:
                case 2:
                    return callInfo(random.nextInt(14) - 1);
                case 3:
                    return callEntry(p, flag);
                case 4:
                    return alike("leaf(" + p + ")", text(real.leaf(p)), text(model.leaf(p)));
                case 5:
                    int low = drawKey();
                    int high = random.nextInt(6) == 0 ? drawKey() : low + random.nextInt(30);
                    return alike("ask(" + low + ", " + high + ")", text(real.ask(low, high)),
                            text(model.ask(low, high)));
                case 6:
                    int k = random.nextInt(Math.max(4, model.told.size() + 2)) - 1;
                    return alike("answer(" + k + ")", text(real.answer(k)), text(model.answer(k)));
                case 7:
                    return alike("cost()", text(real.cost()), text(model.cost));
                case 8:
                    return callBlocks(random.nextInt(6) - 1);
                default:
                    return random.nextBoolean()
                            ? alike("rows()", text(real.rows()), text(model.down ? DOWN : model.rows.size()))
                            : alike("audit()", text(real.audit()), text(model.down ? DOWN : 0));
            }
        }

        String dumpCall(int i) {
            if (i == 0) {
                return model.down ? alike("start()", text(real.start()), text(model.start())) : null;
            }
            if (i <= 12) {
                return callInfo(i - 1);
            }
            if (i <= 16) {
                return callBlocks(i - 13);
            }
            if (i == 17) {
                return alike("ask", text(real.ask(-100, 100)), text(model.ask(-100, 100)));
            }
            return callEntry(random.nextInt(Math.max(1, model.info(8) + 1)), random.nextBoolean());
        }

        String callInfo(int what) {
            return alike("info(" + what + ")", text(real.info(what)), text(model.info(what)));
        }

        String callBlocks(int what) {
            return alike("blocks(" + what + ")", text(real.blocks(what)), text(model.blocks(what)));
        }

        String callEntry(int p, boolean place) {
            String got;
            try {
                got = text(real.entry(p, place));
            } catch (IllegalArgumentException e) {
                got = ARGUMENT;
            } catch (IllegalStateException e) {
                got = NO_POWER;
            }
            return alike("entry(" + p + ", " + place + ")", got, model.entry(p, place));
        }

        String textOfRow(int place, boolean value) {
            try {
                return text(real.row(place, value));
            } catch (IllegalArgumentException e) {
                return ARGUMENT;
            } catch (IllegalStateException e) {
                return NO_POWER;
            }
        }

        int drawKey() {
            if (random.nextInt(100) < rising) {
                nextKey++;
                return nextKey;
            }
            if (keySpan == 0) {
                int[] edges = {Integer.MIN_VALUE, Integer.MAX_VALUE, -1, 0, 1};
                return random.nextInt(4) == 0 ? edges[random.nextInt(edges.length)] : random.nextInt();
            }
            return random.nextInt(keySpan) - keySpan / 4;
        }

        int drawPlace() {
            if (random.nextInt(20) == 0 || model.rows.isEmpty()) {
                return random.nextInt(250) - 5;
            }
            List<Integer> places = new ArrayList<>(model.rows.keySet());
            return places.get(random.nextInt(places.size()));
        }
    }

    private static String text(int answer) {
        return Integer.toString(answer);
    }

    private static String alike(String call, String got, String want) {
        return got.equals(want) ? null : call + " answered " + got + ", the model " + want;
    }

    // ---- the model

    private static final Comparator<int[]> IN_ORDER = (a, b) -> a[0] != b[0] ? Integer.compare(a[0], b[0]) : a[1] - b[1];

    /** A leaf has entries {key, place}, another node has nodes. */
    private static final class Node {
        List<int[]> entries = null;
        List<Node> nodes = null;

        int[] least() {
            return nodes == null ? entries.get(0) : nodes.get(0).least();
        }

        int size() {
            return nodes == null ? entries.size() : nodes.size();
        }

        int countNodes() {
            int n = 1;
            if (nodes != null) {
                for (Node node : nodes) {
                    n += node.countNodes();
                }
            }
            return n;
        }

        int levels() {
            return nodes == null ? 1 : 1 + nodes.get(0).levels();
        }

        void collectLeaves(List<Node> to) {
            if (nodes == null) {
                to.add(this);
            } else {
                for (Node node : nodes) {
                    node.collectLeaves(to);
                }
            }
        }

        void collectNodes(Set<Node> to) {
            to.add(this);
            if (nodes != null) {
                for (Node node : nodes) {
                    node.collectNodes(to);
                }
            }
        }

        Node copy() {
            Node made = new Node();
            if (nodes == null) {
                made.entries = new ArrayList<>(entries);
            } else {
                made.nodes = new ArrayList<>();
                for (Node node : nodes) {
                    made.nodes.add(node.copy());
                }
            }
            return made;
        }

        Node wayFor(int[] entry) {
            Node way = nodes.get(0);
            for (Node node : nodes) {
                if (IN_ORDER.compare(node.least(), entry) <= 0) {
                    way = node;
                }
            }
            return way;
        }
    }

    private static final class Lost extends Exception {
        private static final long serialVersionUID = 1L;
    }

    private static final class Model {
        TreeMap<Integer, int[]> rows = new TreeMap<>();
        boolean down = false;
        int cutAt = NONE;
        int all = 0;
        int ofCheckpoints = 0;
        int checkpoints = 0;

        int state = 0;
        boolean unique = false;
        int page = 0;
        List<int[]> picked = new ArrayList<>();
        List<List<int[]>> runs = new ArrayList<>();
        List<int[]> log = new ArrayList<>();
        List<int[]> unloaded = new ArrayList<>();
        List<Node> rowBelow = null;
        List<Node> rowMade = new ArrayList<>();
        int loaded = 0;
        Node root = null;
        int why = 0;
        int[] twins = {NONE, NONE};

        Set<Integer> dirtyPages = new TreeSet<>();
        Set<Node> dirtyNodes = Collections.newSetFromMap(new IdentityHashMap<>());

        // what the latest checkpoint holds, and the writes {place, comes or stays, key, value} behind it
        TreeMap<Integer, int[]> savedRows = new TreeMap<>();
        Node savedRoot = null;
        boolean savedUnique = false;
        List<int[]> writes = new ArrayList<>();

        List<Integer> told = new ArrayList<>();
        int cost = 0;

        // -- the disk

        void block() throws Lost {
            all++;
            if (cutAt == 0) {
                down = true;
                throw new Lost();
            }
            if (cutAt > 0) {
                cutAt--;
            }
        }

        void checkpoint(Set<Node> nodes, Node rootThen, boolean uniqueThen) throws Lost {
            int size = dirtyPages.size() + nodes.size() + 1;
            try {
                for (int i = 0; i < size; i++) {
                    block();
                }
            } catch (Lost e) {
                note("checkpoint lost");
                throw e;
            }
            ofCheckpoints += size;
            checkpoints++;
            dirtyPages.clear();
            dirtyNodes.clear();
            writes.clear();
            savedRows = new TreeMap<>(rows);
            savedRoot = rootThen == null ? null : rootThen.copy();
            savedUnique = uniqueThen;
        }

        Set<Node> nodesToWrite(boolean everyOne) {
            Set<Node> nodes = Collections.newSetFromMap(new IdentityHashMap<>());
            if (root != null) {
                root.collectNodes(nodes);
                if (!everyOne) {
                    nodes.retainAll(dirtyNodes);
                }
            }
            return nodes;
        }

        int cut(int n, int tear) {
            if (down) {
                return DOWN;
            }
            if (n < -1 || n > 1000 || tear < 0 || tear > 63) {
                note("cut OUTSIDE");
                return OUTSIDE;
            }
            cutAt = n;
            return 1;
        }

        int start() {
            if (!down) {
                return STATE;
            }
            down = false;
            cutAt = NONE;
            rows = new TreeMap<>(savedRows);
            noIndex();
            if (savedRoot != null) {
                root = savedRoot.copy();
                state = 5;
                unique = savedUnique;
            }
            dirtyPages.clear();
            dirtyNodes.clear();
            for (int[] write : writes) {
                apply(write);
            }
            if (state == 6) {
                note("index gone by writes since");
                noIndex();
            }
            note("back in " + state);
            return rows.size();
        }

        void noIndex() {
            state = 0;
            unique = false;
            why = 0;
            twins = new int[] {NONE, NONE};
            noBuilding();
            root = null;
        }

        void noBuilding() {
            page = 0;
            picked.clear();
            runs.clear();
            log.clear();
            unloaded.clear();
            rowBelow = null;
            rowMade.clear();
            loaded = 0;
        }

        void stop(int reason) {
            note("stopped " + reason + (reason == 2 ? " in " + state : ""));
            state = 6;
            why = reason;
            noBuilding();
            root = null;
        }

        // -- writes

        int add(int key, int value) {
            if (down) {
                return DOWN;
            }
            int place = 0;
            while (rows.containsKey(place)) {
                place++;
            }
            if (place > 239) {
                note("add ROOM");
                return ROOM;
            }
            return write("add", new int[] {place, 1, key, value}, place);
        }

        int change(int place, int key, int value) {
            if (down) {
                return DOWN;
            }
            if (!rows.containsKey(place)) {
                note("change UNKNOWN");
                return UNKNOWN;
            }
            return write("change", new int[] {place, 1, key, value}, 1);
        }

        int remove(int place) {
            if (down) {
                return DOWN;
            }
            if (!rows.containsKey(place)) {
                note("remove UNKNOWN");
                return UNKNOWN;
            }
            return write("remove", new int[] {place, 0, 0, 0}, 1);
        }

        int write(String name, int[] write, int answer) {
            if (state == 5 && unique && write[1] == 1) {
                for (Map.Entry<Integer, int[]> row : rows.entrySet()) {
                    if (row.getKey() != write[0] && row.getValue()[0] == write[2]) {
                        note(name + " DUPLICATE");
                        return DUPLICATE;
                    }
                }
            }
            try {
                if (writes.size() == 30) {
                    boolean is = state == 5;
                    checkpoint(is ? nodesToWrite(false) : Set.of(), is ? root : null, unique);
                }
                block();
            } catch (Lost e) {
                note(name + " LOST");
                return LOST;
            }
            writes.add(write);
            apply(write);
            return answer;
        }

        void apply(int[] write) {
            int place = write[0];
            int[] before = rows.get(place);
            dirtyPages.add(place / 12);
            if (write[1] == 1) {
                rows.put(place, new int[] {write[2], write[3]});
            } else {
                rows.remove(place);
            }
            int[] after = rows.get(place);
            if (before != null && after != null && before[0] == after[0]) {
                return;
            }
            if (before != null) {
                follow(new int[] {before[0], place, 0});
            }
            if (after != null) {
                follow(new int[] {after[0], place, 1});
            }
        }

        void follow(int[] item) {
            if (state == 5) {
                bring(item);
            } else if (state >= 1 && state <= 4 && item[1] / 12 < page) {
                log.add(item);
                if (log.size() > 40) {
                    stop(1);
                }
            }
        }

        // -- the tree

        void bring(int[] item) {
            int[] entry = {item[0], item[1]};
            if (item[2] == 0) {
                goFrom(root, entry);
                while (root.nodes != null && root.nodes.size() == 1) {
                    root = root.nodes.get(0);
                    note("root gone");
                }
                return;
            }
            Node right = comeTo(root, entry);
            if (right != null) {
                Node top = new Node();
                top.nodes = new ArrayList<>(List.of(root, right));
                dirtyNodes.add(top);
                root = top;
            }
            if (root.countNodes() > 64) {
                stop(2);
            } else {
                note("levels " + root.levels());
            }
        }

        /** The new node right of it, if it was divided. */
        Node comeTo(Node node, int[] entry) {
            if (node.nodes == null) {
                node.entries.add(entry);
                node.entries.sort(IN_ORDER);
                dirtyNodes.add(node);
            } else {
                Node below = node.wayFor(entry);
                Node right = comeTo(below, entry);
                if (right == null) {
                    return null;
                }
                node.nodes.add(node.nodes.indexOf(below) + 1, right);
                dirtyNodes.add(node);
            }
            if (node.size() < 9) {
                return null;
            }
            Node made = new Node();
            if (node.nodes == null) {
                made.entries = new ArrayList<>(node.entries.subList(4, 9));
                node.entries = new ArrayList<>(node.entries.subList(0, 4));
            } else {
                made.nodes = new ArrayList<>(node.nodes.subList(4, 9));
                node.nodes = new ArrayList<>(node.nodes.subList(0, 4));
            }
            dirtyNodes.add(made);
            return made;
        }

        void goFrom(Node node, int[] entry) {
            if (node.nodes == null) {
                if (!node.entries.removeIf(e -> IN_ORDER.compare(e, entry) == 0)) {
                    throw new AssertionError("the model has no such entry");
                }
                dirtyNodes.add(node);
                return;
            }
            Node below = node.wayFor(entry);
            goFrom(below, entry);
            if (below.size() == 0) {
                node.nodes.remove(below);
                dirtyNodes.add(node);
            }
        }

        List<Node> leaves() {
            List<Node> leaves = new ArrayList<>();
            if (state == 4 || state == 5) {
                root.collectLeaves(leaves);
            }
            return leaves;
        }

        List<int[]> entries() {
            List<int[]> entries = new ArrayList<>();
            for (Node leaf : leaves()) {
                entries.addAll(leaf.entries);
            }
            return entries;
        }

        // -- building

        int build(boolean isUnique) {
            if (down) {
                return DOWN;
            }
            if (state >= 1 && state <= 5) {
                note("build STATE");
                return STATE;
            }
            noIndex();
            state = 1;
            unique = isUnique;
            return 1;
        }

        int drop() {
            if (down) {
                return DOWN;
            }
            int was = state;
            if (was == 5) {
                try {
                    checkpoint(Set.of(), null, false);
                } catch (Lost e) {
                    note("drop LOST");
                    return LOST;
                }
            }
            noIndex();
            return was;
        }

        int step(int n) {
            if (down) {
                return DOWN;
            }
            if (n < 1 || n > 1000) {
                return OUTSIDE;
            }
            for (int i = 0; i < n; i++) {
                int was = state;
                try {
                    if (state == 1) {
                        scan();
                    } else if (state == 2) {
                        merge();
                    } else if (state == 3) {
                        load();
                    } else if (state == 4) {
                        catchUp();
                    }
                } catch (Lost e) {
                    note("step LOST in " + was);
                    return LOST;
                }
            }
            return state;
        }

        void sortedRun(List<int[]> run) throws Lost {
            run.sort(IN_ORDER);
            runs.add(run);
            for (int i = 0; i < run.size(); i += 8) {
                block();
            }
        }

        void scan() throws Lost {
            for (Map.Entry<Integer, int[]> row : rows.subMap(page * 12, page * 12 + 12).entrySet()) {
                picked.add(new int[] {row.getValue()[0], row.getKey()});
            }
            page++;
            if (picked.size() >= 24 || page == 20 && !picked.isEmpty()) {
                List<int[]> run = picked;
                picked = new ArrayList<>();
                sortedRun(run);
            }
            if (page == 20) {
                state = 2;
            }
        }

        void merge() throws Lost {
            if (runs.size() >= 2) {
                List<int[]> run = new ArrayList<>(runs.remove(0));
                run.addAll(runs.remove(0));
                sortedRun(run);
                return;
            }
            state = 3;
            if (!runs.isEmpty()) {
                unloaded.addAll(runs.get(0));
            }
        }

        void load() throws Lost {
            block();
            Node made = new Node();
            loaded++;
            rowMade.add(made);
            boolean ended;
            if (rowBelow == null) {
                List<int[]> next = unloaded.subList(0, Math.min(6, unloaded.size()));
                made.entries = new ArrayList<>(next);
                next.clear();
                ended = unloaded.isEmpty();
            } else {
                List<Node> next = rowBelow.subList(0, Math.min(6, rowBelow.size()));
                made.nodes = new ArrayList<>(next);
                next.clear();
                ended = rowBelow.isEmpty();
            }
            if (ended && rowMade.size() == 1) {
                root = made;
                state = 4;
            } else if (ended) {
                rowBelow = rowMade;
                rowMade = new ArrayList<>();
            }
        }

        void catchUp() throws Lost {
            if (!log.isEmpty()) {
                bring(log.remove(0));
                return;
            }
            if (unique) {
                TreeMap<Integer, Integer> firstPlace = new TreeMap<>();
                TreeMap<Integer, Integer> secondPlace = new TreeMap<>();
                for (Map.Entry<Integer, int[]> row : rows.entrySet()) {
                    if (firstPlace.putIfAbsent(row.getValue()[0], row.getKey()) != null) {
                        secondPlace.putIfAbsent(row.getValue()[0], row.getKey());
                    }
                }
                if (!secondPlace.isEmpty()) {
                    int key = secondPlace.firstKey();
                    twins = new int[] {firstPlace.get(key), secondPlace.get(key)};
                    stop(3);
                    return;
                }
            }
            checkpoint(nodesToWrite(true), root, unique);
            noBuilding();
            state = 5;
            note("published");
        }

        // -- questions

        String row(int place, boolean value) {
            if (down) {
                return NO_POWER;
            }
            return rows.containsKey(place) ? text(rows.get(place)[value ? 1 : 0]) : ARGUMENT;
        }

        int info(int what) {
            if (down) {
                return DOWN;
            }
            boolean tree = state == 4 || state == 5;
            switch (what) {
                case 0:
                    return state;
                case 1:
                    return unique ? 1 : 0;
                case 2:
                    return page;
                case 3:
                    return runs.size();
                case 4:
                    return picked.size();
                case 5:
                    return log.size();
                case 6:
                    return tree ? root.countNodes() : loaded;
                case 7:
                    return tree ? root.levels() : 0;
                case 8:
                    return entries().size();
                case 9:
                    return why;
                case 10:
                case 11:
                    return twins[what - 10];
                default:
                    return OUTSIDE;
            }
        }

        String entry(int p, boolean place) {
            if (down) {
                return NO_POWER;
            }
            List<int[]> entries = entries();
            return p >= 0 && p < entries.size() ? text(entries.get(p)[place ? 1 : 0]) : ARGUMENT;
        }

        int leaf(int p) {
            if (down) {
                return DOWN;
            }
            int begin = 0;
            for (Node leaf : leaves()) {
                if (p >= begin && p < begin + leaf.size()) {
                    return leaf.size();
                }
                begin += leaf.size();
            }
            return UNKNOWN;
        }

        int ask(int low, int high) {
            if (down) {
                return DOWN;
            }
            told = new ArrayList<>();
            if (state != 5) {
                cost = 20;
                for (Map.Entry<Integer, int[]> row : rows.entrySet()) {
                    if (row.getValue()[0] >= low && row.getValue()[0] <= high) {
                        told.add(row.getKey());
                    }
                }
                return told.size();
            }
            for (int[] entry : entries()) {
                if (entry[0] >= low && entry[0] <= high) {
                    told.add(entry[1]);
                }
            }
            Node way = root;
            cost = 1;
            while (way.nodes != null) {
                way = way.wayFor(new int[] {low, 0});
                cost++;
            }
            List<Node> leaves = leaves();
            for (int i = leaves.indexOf(way) + 1; i < leaves.size(); i++) {
                if (leaves.get(i).least()[0] <= high) {
                    cost++;
                }
            }
            return told.size();
        }

        int answer(int k) {
            return k >= 0 && k < told.size() ? told.get(k) : NONE;
        }

        int blocks(int what) {
            int[] counts = {all, ofCheckpoints, checkpoints, writes.size()};
            return what >= 0 && what < 4 ? counts[what] : OUTSIDE;
        }
    }
}
