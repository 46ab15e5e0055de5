import java.util.ArrayDeque;
import java.util.ArrayList;
import java.util.Deque;
import java.util.List;
import java.util.Map;
import java.util.Objects;
import java.util.TreeMap;
import java.util.TreeSet;

/**
 * Long runs of made-up calls, compared with a second writing of the document's Terms that keeps
 * objects, pages and references as Java objects, and with the graph of objects as the program that
 * uses the heap sees it, which no collector may change.
 */
public final class ModelTest {
    private static final int RUNS = 6000;
    private static final int CALLS = 512;
    private static final int MOST_CALLS_AT_ONCE = 3;
    private static final int MOST_REPORTS = 20;

    private static int wrong = 0;

    public static void main(String[] args) {
        Seen seen = new Seen();
        for (int run = 0; run < RUNS && wrong < MOST_REPORTS; run++) {
            new Run(run, seen).go();
        }
        if (wrong == 0) {
            seen.demandAll();
        }
        System.out.println(wrong == 0 ? "all answers are as due" : wrong + " answers are not as due");
        if (wrong != 0) {
            System.exit(1);
        }
    }

    private static void report(String text) {
        wrong++;
        System.out.println(text);
    }

    /** How often the rare things came about: runs that never meet them would prove little. */
    private static final class Seen {
        private final Map<String, Integer> counts = new TreeMap<>();
        private static final String[] WANTED = {
            "make refused as full", "forwarded when idle", "forwarded when marking",
            "forwarded when relocating", "moved by a field", "moved by a root", "moved by a step",
            "no room for a field", "no room for a root", "no room for a step",
            "colour 3 at a place with a forwarding", "page freed by judgement", "page freed by a step",
            "page left in use by judgement", "second cycle of a colour", "made while marking"};

        void note(String what) {
            counts.merge(what, 1, Integer::sum);
        }

        void demandAll() {
            for (String what : WANTED) {
                if (counts.getOrDefault(what, 0) < 20) {
                    report("the runs met this too rarely: " + what);
                }
            }
        }
    }

    /** A source of numbers that is the same in every run of the test. */
    private static final class Numbers {
        private long state;

        Numbers(long seed) {
            state = seed * 0x9E3779B97F4A7C15L + 12345;
        }

        int below(int bound) {
            state = state * 6364136223846793005L + 1442695040888963407L;
            return (int) ((state >>> 33) % bound);
        }

        boolean oneIn(int n) {
            return below(n) == 0;
        }
    }

    private record Ref(int place, int colour) {
    }

    private static final class Thing {
        int value;
        Ref[] fields;
        boolean marked;

        Thing(int value, Ref[] fields) {
            this.value = value;
            this.fields = fields;
        }

        int words() {
            return fields.length + 1;
        }
    }

    private static final class Page {
        final int number;
        boolean inUse;
        boolean candidate;
        int used;
        final TreeMap<Integer, Thing> things = new TreeMap<>();

        Page(int number) {
            this.number = number;
        }

        List<Integer> markedPlaces() {
            List<Integer> places = new ArrayList<>();
            things.forEach((place, thing) -> {
                if (thing.marked) {
                    places.add(place);
                }
            });
            return places;
        }

        void free() {
            inUse = false;
            candidate = false;
            used = 0;
            things.clear();
        }
    }

    /** The heap by the words of the document, without any refusals but those of room. */
    private static final class Model {
        final int threshold;
        final Seen seen;
        final Page[] pages = new Page[8];
        final Ref[] roots = new Ref[6];
        final TreeMap<Integer, Integer> forwardings = new TreeMap<>();
        final TreeSet<Integer> relocationSet = new TreeSet<>();
        final Deque<Thing> stack = new ArrayDeque<>();
        Page allocating;
        int phase;
        int cycles;
        int healed;
        int moved;

        Model(int threshold, Seen seen) {
            this.threshold = threshold < 1 ? 1 : threshold > 16 ? 16 : threshold;
            this.seen = seen;
            for (int p = 0; p < 8; p++) {
                pages[p] = new Page(p);
            }
        }

        int good() {
            return phase == 1 ? (cycles % 2 == 1 ? 1 : 2) : 3;
        }

        /** No run may ever want an object that is not there: so the document's rules are sound. */
        Thing at(int place) {
            return Objects.requireNonNull(pages[place / 16].things.get(place), "no object at " + place);
        }

        int room(int words) {
            if (allocating == null || 16 - allocating.used < words) {
                Page free = null;
                for (int p = 7; p >= 0; p--) {
                    free = pages[p].inUse ? free : pages[p];
                }
                if (free == null) {
                    return -1;
                }
                free.inUse = true;
                allocating = free;
            }
            int place = allocating.number * 16 + allocating.used;
            allocating.used += words;
            return place;
        }

        int make(int root, int n, int value) {
            int place = room(n + 1);
            if (place < 0) {
                seen.note("make refused as full");
                return -3;
            }
            if (phase == 1) {
                seen.note("made while marking");
            }
            pages[place / 16].things.put(place, new Thing(value, new Ref[n]));
            roots[root] = new Ref(place, good());
            return place;
        }

        boolean move(int place, String by) {
            Thing old = at(place);
            int to = room(old.words());
            if (to < 0) {
                seen.note("no room for a " + by);
                relocationSet.remove(place / 16);
                return false;
            }
            seen.note("moved by a " + by);
            pages[to / 16].things.put(to, new Thing(old.value, old.fields));
            pages[place / 16].things.remove(place);
            forwardings.put(place, to);
            moved++;
            return true;
        }

        Ref healedRef(Ref ref, String by) {
            if (ref == null || ref.colour == good()) {
                return ref;
            }
            healed++;
            int place = ref.place;
            boolean forwarded = forwardings.containsKey(place);
            switch (phase) {
                case 0 -> {
                    place = forwardings.getOrDefault(place, place);
                    seen.note(forwarded ? "forwarded when idle" : "not forwarded when idle");
                }
                case 1 -> {
                    if (forwarded && ref.colour == 3) {
                        seen.note("colour 3 at a place with a forwarding");
                    } else if (forwarded) {
                        seen.note("forwarded when marking");
                        place = forwardings.get(place);
                    }
                    Thing thing = at(place);
                    if (!thing.marked) {
                        thing.marked = true;
                        stack.push(thing);
                    }
                }
                default -> {
                    if (forwarded) {
                        seen.note("forwarded when relocating");
                        place = forwardings.get(place);
                    } else if (relocationSet.contains(place / 16) && move(place, by)) {
                        place = forwardings.get(place);
                    }
                }
            }
            at(place);
            return new Ref(place, good());
        }

        void healRoots() {
            for (int r = 0; r < 6; r++) {
                roots[r] = healedRef(roots[r], "root");
            }
        }

        void healField(Thing thing, int f) {
            thing.fields[f] = healedRef(thing.fields[f], "field");
        }

        void step() {
            if (phase == 0) {
                phase = 1;
                cycles++;
                if (cycles == 3) {
                    seen.note("second cycle of a colour");
                }
                for (Page page : pages) {
                    page.things.values().forEach(thing -> thing.marked = false);
                    page.candidate = page.inUse;
                }
                allocating = null;
                healRoots();
            } else if (phase == 1 && !stack.isEmpty()) {
                Thing thing = stack.pop();
                for (int f = 0; f < thing.fields.length; f++) {
                    healField(thing, f);
                }
            } else if (phase == 1) {
                forwardings.clear();
                for (Page page : pages) {
                    if (page.candidate) {
                        judge(page);
                    }
                }
                phase = 2;
                healRoots();
            } else if (relocationSet.isEmpty()) {
                phase = 0;
            } else {
                relocate(pages[relocationSet.first()]);
            }
        }

        void judge(Page page) {
            int live = 0;
            for (int place : page.markedPlaces()) {
                live += at(place).words();
            }
            if (live == 0) {
                seen.note("page freed by judgement");
                page.free();
            } else if (live <= threshold) {
                relocationSet.add(page.number);
            } else {
                seen.note("page left in use by judgement");
            }
        }

        void relocate(Page page) {
            List<Integer> places = page.markedPlaces();
            if (!places.isEmpty() && !move(places.get(0), "step")) {
                return;
            }
            if (page.markedPlaces().isEmpty()) {
                seen.note("page freed by a step");
                relocationSet.remove(page.number);
                page.free();
            }
        }

        int page(int number, int what) {
            Page page = pages[number];
            return switch (what) {
                case 0 -> !page.inUse ? 0 : page == allocating ? 2 : relocationSet.contains(number) ? 4 : 1;
                case 1 -> page.used;
                case 2 -> page.markedPlaces().size();
                case 3 -> page.candidate ? 1 : 0;
                default -> forwardings.subMap(16 * number, 16 * number + 16).size();
            };
        }
    }

    /** An object as the program sees it, wherever the heap may keep it. */
    private static final class Node {
        int value;
        final Node[] fields;

        Node(int value, int n) {
            this.value = value;
            this.fields = new Node[n];
        }
    }

    private static final class Run {
        private final int run;
        private final Numbers numbers;
        private final ColouredHeap heap;
        private final Model model;
        private final Node[] nodes = new Node[6];
        private final int makeWeight;
        private final int collectWeight;
        private final int mostSteps;
        private final int dropWeight;
        private final int growWeight;
        private final int walkWeight;
        private int callCount = 0;
        private final StringBuilder calls = new StringBuilder();

        Run(int run, Seen seen) {
            this.run = run;
            this.numbers = new Numbers(run);
            int threshold = numbers.below(20) - 1;
            this.heap = new ColouredHeap(threshold);
            this.model = new Model(threshold, seen);
            this.makeWeight = 5 + numbers.below(40);
            this.collectWeight = 1 + numbers.below(50);
            this.mostSteps = 1 + numbers.below(numbers.oneIn(5) ? 100 : numbers.oneIn(2) ? 8 : 2);
            this.dropWeight = numbers.below(8);
            this.growWeight = numbers.oneIn(2) ? 20 + numbers.below(40) : 0;
            this.walkWeight = numbers.below(90);
            calls.append("threshold ").append(threshold);
        }

        void go() {
            while (callCount < CALLS) {
                int before = wrong;
                nextCalls();
                if (wrong > before) {
                    System.out.println("run " + run + ": " + calls);
                    return;
                }
            }
        }

        private void due(String call, long got, long want) {
            callCount++;
            calls.append("; ").append(call);
            if (got != want) {
                report(call + " answered " + got + ", due is " + want);
            }
        }

        /** Mostly a root; now and then a number near by or far away. */
        private int someRoot() {
            return some(6);
        }

        private int some(int bound) {
            if (numbers.oneIn(60)) {
                int[] odd = {-1, bound, bound + 1, Integer.MIN_VALUE, Integer.MAX_VALUE};
                return odd[numbers.below(odd.length)];
            }
            return numbers.below(bound);
        }

        /** Mostly a root that holds something, so that runs get somewhere. */
        private int someHolder() {
            int root = someRoot();
            for (int i = 0; i < 6 && isRoot(root) && nodes[root] == null; i++) {
                root = numbers.below(6);
            }
            return root;
        }

        private static boolean isRoot(int root) {
            return root >= 0 && root <= 5;
        }

        private int someField(int root) {
            int n = isRoot(root) && nodes[root] != null ? nodes[root].fields.length : 0;
            return n == 0 ? some(3) : some(n);
        }

        /** What the document has for a root whose object is wanted: 0, or the refusal. */
        private int rootRefusal(int root) {
            return !isRoot(root) ? -1 : model.roots[root] == null ? -2 : 0;
        }

        private int fieldRefusal(int root, int f) {
            int refusal = rootRefusal(root);
            if (refusal != 0) {
                return refusal;
            }
            return f < 0 || f >= nodes[root].fields.length ? -1 : 0;
        }

        private Thing thing(int root) {
            return model.at(model.roots[root].place);
        }

        private void nextCalls() {
            int kind = numbers.below(100);
            boolean badColoursBehind = model.phase != 1 && model.cycles > 0;
            if (callCount > CALLS - MOST_CALLS_AT_ONCE) {
                oneCall();
            } else if (badColoursBehind && kind < walkWeight) {
                walk();
            } else if (kind < growWeight) {
                grow();
            } else {
                oneCall();
            }
        }

        /** Puts a new object before what a root holds: so much stays live that room becomes scarce. */
        private void grow() {
            int root = numbers.below(2);
            int helper = 2 + numbers.below(4);
            int n = 1 + numbers.below(3);
            if (make(helper, n)) {
                store(helper, numbers.below(n), root);
                copy(root, helper);
            }
        }

        /** Goes from a root to objects that only fields reach: they are healed there. */
        private void walk() {
            int helper = 2 + numbers.below(4);
            if (numbers.oneIn(3)) {
                copy(helper, numbers.below(2));
            }
            load(helper, helper, someField(helper));
            load(helper, helper, someField(helper));
        }

        private void oneCall() {
            int kind = numbers.below(makeWeight + collectWeight + dropWeight + 70);
            if (kind < makeWeight) {
                make(someRoot(), some(4));
            } else if (kind < makeWeight + collectWeight) {
                collect();
            } else if (kind < makeWeight + collectWeight + dropWeight) {
                drop();
            } else {
                otherCall(kind - makeWeight - collectWeight - dropWeight);
            }
        }

        private void otherCall(int kind) {
            if (kind < 12) {
                int from = someHolder();
                load(someRoot(), from, someField(from));
            } else if (kind < 27) {
                int from = someHolder();
                store(from, someField(from), someRoot());
            } else if (kind < 31) {
                copy(someRoot(), someHolder());
            } else if (kind < 34) {
                set();
            } else if (kind < 48) {
                lookAtRoot();
            } else if (kind < 58) {
                lookAtField();
            } else {
                lookAtCollector();
            }
        }

        private boolean make(int root, int n) {
            int value = numbers.below(1 << 30);
            boolean bad = !isRoot(root) || n < 0 || n > 3;
            int want = bad ? -1 : model.make(root, n, value);
            if (want >= 0) {
                nodes[root] = new Node(value, n);
            }
            due("make(" + root + ", " + n + ", " + value + ")", heap.make(root, n, value), want);
            return want >= 0;
        }

        private void collect() {
            int n = numbers.oneIn(60) ? some(101) : numbers.below(mostSteps + 1);
            boolean bad = n < 0 || n > 100;
            for (int i = 0; !bad && i < n; i++) {
                model.step();
            }
            due("collect(" + n + ")", heap.collect(n), bad ? -1 : model.phase);
        }

        private void drop() {
            int root = someRoot();
            boolean want = isRoot(root) && nodes[root] != null;
            if (want) {
                model.roots[root] = null;
                nodes[root] = null;
            }
            due("drop(" + root + ")", heap.drop(root) ? 1 : 0, want ? 1 : 0);
        }

        private void load(int to, int from, int f) {
            int want = isRoot(to) ? fieldRefusal(from, f) : -1;
            if (want == 0) {
                Thing thing = thing(from);
                model.healField(thing, f);
                model.roots[to] = thing.fields[f];
                nodes[to] = nodes[from].fields[f];
                want = model.roots[to] == null ? 0 : 1;
            }
            due("load(" + to + ", " + from + ", " + f + ")", heap.load(to, from, f), want);
        }

        private void store(int from, int f, int root) {
            int want = isRoot(root) ? fieldRefusal(from, f) : -1;
            if (want == 0) {
                thing(from).fields[f] = model.roots[root];
                nodes[from].fields[f] = nodes[root];
            }
            due("store(" + from + ", " + f + ", " + root + ")", heap.store(from, f, root), want);
        }

        private void copy(int to, int from) {
            boolean want = isRoot(to) && isRoot(from);
            if (want) {
                model.roots[to] = model.roots[from];
                nodes[to] = nodes[from];
            }
            due("copy(" + to + ", " + from + ")", heap.copy(to, from) ? 1 : 0, want ? 1 : 0);
        }

        private void set() {
            int root = someHolder();
            int value = numbers.below(1 << 30) - (1 << 29);
            boolean want = rootRefusal(root) == 0;
            if (want) {
                thing(root).value = value;
                nodes[root].value = value;
            }
            due("set(" + root + ", " + value + ")", heap.set(root, value) ? 1 : 0, want ? 1 : 0);
        }

        private void lookAtRoot() {
            int root = someHolder();
            int refusal = rootRefusal(root);
            switch (numbers.below(3)) {
                case 0 -> {
                    due("value(" + root + ")", heap.value(root), refusal < 0 ? 0 : nodes[root].value);
                    if (refusal == 0 && thing(root).value != nodes[root].value) {
                        report("the model lost the value of root " + root);
                    }
                }
                case 1 -> due("fields(" + root + ")", heap.fields(root),
                    refusal < 0 ? refusal : nodes[root].fields.length);
                default -> due("place(" + root + ")", heap.place(root),
                    refusal < 0 ? refusal : model.roots[root].place);
            }
        }

        private void lookAtField() {
            int root = someHolder();
            int f = someField(root);
            int refusal = fieldRefusal(root, f);
            Ref ref = refusal < 0 ? null : thing(root).fields[f];
            if (numbers.oneIn(2)) {
                int want = refusal < 0 ? refusal : ref == null ? 0 : ref.colour;
                due("colour(" + root + ", " + f + ")", heap.colour(root, f), want);
            } else {
                int want = refusal < 0 ? refusal : ref == null ? -1 : ref.place;
                due("behind(" + root + ", " + f + ")", heap.behind(root, f), want);
            }
        }

        private void lookAtCollector() {
            switch (numbers.below(9)) {
                case 0 -> due("phase()", heap.phase(), model.phase);
                case 1 -> due("stack()", heap.stack(), model.stack.size());
                case 2 -> due("healed()", heap.healed(), model.healed);
                case 3 -> due("moved()", heap.moved(), model.moved);
                case 4 -> due("cycles()", heap.cycles(), model.cycles);
                default -> {
                    int page = some(8);
                    int what = some(5);
                    boolean bad = page < 0 || page > 7 || what < 0 || what > 4;
                    due("page(" + page + ", " + what + ")", heap.page(page, what),
                        bad ? -1 : model.page(page, what));
                }
            }
        }
    }
}
