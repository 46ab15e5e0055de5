/** One or more runs of calls for each promise of the document, with the answers worked out by hand. */
public final class PromiseTest {
    private static final int BAD = ColouredHeap.BAD;
    private static final int EMPTY = ColouredHeap.EMPTY;
    private static final int FULL = ColouredHeap.FULL;
    private static final int[] NO_ROOTS = {-1, 6, Integer.MIN_VALUE, Integer.MAX_VALUE};

    private static int wrong = 0;

    private static void due(String what, long got, long want) {
        if (got != want) {
            wrong++;
            System.out.println(what + ": answered " + got + ", due is " + want);
        }
    }

    private static void due(String what, boolean got, boolean want) {
        due(what, got ? 1 : 0, want ? 1 : 0);
    }

    public static void main(String[] args) {
        constants();
        newObject();
        thresholdBounds();
        make();
        makeRefused();
        makeFull();
        makeColour();
        makeClearsOldFields();
        load();
        loadHealsWhenMarking();
        loadHealsWhenRelocating();
        loadHealsWhenIdle();
        loadWithoutRoom();
        store();
        copy();
        drop();
        value();
        set();
        fields();
        place();
        colour();
        behind();
        collect();
        collectLiveAndDead();
        collectCandidatesOnly();
        collectLeastPlaceFirst();
        collectRootsMovedInOrder();
        collectWithoutRoom();
        collectPageEmptiedByLoads();
        collectForwardingOfOldObject();
        collectForwardingInNextMarking();
        phase();
        stack();
        stackIsLastInFirstOut();
        page();
        pageMarksAfterMove();
        healed();
        moved();
        cycles();
        System.out.println(wrong == 0 ? "all answers are as due" : wrong + " answers are not as due");
        if (wrong != 0) {
            System.exit(1);
        }
    }

    private static void constants() {
        due("BAD", ColouredHeap.BAD, -1);
        due("EMPTY", ColouredHeap.EMPTY, -2);
        due("FULL", ColouredHeap.FULL, -3);
    }

    // Promise 1

    private static void newObject() {
        ColouredHeap x = new ColouredHeap(4);
        for (int page = 0; page < 8; page++) {
            for (int what = 0; what <= 4; what++) {
                due("new page " + page + ", " + what, x.page(page, what), 0);
            }
        }
        for (int root = 0; root < 6; root++) {
            due("new place " + root, x.place(root), EMPTY);
        }
        due("new phase", x.phase(), 0);
        due("new stack", x.stack(), 0);
        due("new healed", x.healed(), 0);
        due("new moved", x.moved(), 0);
        due("new cycles", x.cycles(), 0);
    }

    private static void thresholdBounds() {
        for (int low : new int[] {Integer.MIN_VALUE, -1, 0, 1}) {
            due("threshold " + low + ", 1 word", inSetWithLive(low, 1), true);
            due("threshold " + low + ", 2 words", inSetWithLive(low, 2), false);
        }
        due("threshold 5, 5 words", inSetWithLive(5, 5), true);
        due("threshold 5, 6 words", inSetWithLive(5, 6), false);
        due("threshold 15, 15 words", inSetWithLive(15, 15), true);
        due("threshold 15, 16 words", inSetWithLive(15, 16), false);
        for (int high : new int[] {16, 17, Integer.MAX_VALUE}) {
            due("threshold " + high + ", 16 words", inSetWithLive(high, 16), true);
        }
    }

    /** Whether page 0 comes into the relocation set with so many live words (1 .. 16). */
    private static boolean inSetWithLive(int threshold, int words) {
        ColouredHeap x = new ColouredHeap(threshold);
        int root = 0;
        for (int left = words; left > 0; root++) {
            int size = Math.min(4, left);
            x.make(root, size - 1, 0);
            left -= size;
        }
        x.collect(1);
        due("marked of " + words, x.page(0, 2), root);
        x.collect(root);
        due("stack of " + words, x.stack(), 0);
        x.collect(1);
        return x.page(0, 0) == 4;
    }

    // Promise 2

    private static void make() {
        ColouredHeap x = new ColouredHeap(4);
        due("make 0 fields", x.make(0, 0, 10), 0);
        due("make 1 field", x.make(1, 1, 11), 1);
        due("make 2 fields", x.make(2, 2, 12), 3);
        due("make 3 fields", x.make(3, 3, 13), 6);
        due("make again 3 fields", x.make(4, 3, 14), 10);
        due("page 0 used", x.page(0, 1), 14);
        due("make with 2 words left", x.make(5, 2, 15), 16);
        due("page 0 left", x.page(0, 0), 1);
        due("page 0 used still", x.page(0, 1), 14);
        due("page 1 allocating", x.page(1, 0), 2);
        due("page 1 used", x.page(1, 1), 3);
        due("make small does not go back", x.make(0, 0, 16), 19);
        for (int root = 1; root < 6; root++) {
            due("value " + root, x.value(root), 10 + root);
        }
        due("value of the one made again", x.value(0), 16);
        due("fields hold nothing", x.colour(3, 0) + x.colour(3, 1) + x.colour(3, 2), 0);
        due("make, extreme value", x.make(0, 0, Integer.MIN_VALUE), 20);
        due("extreme value", x.value(0), Integer.MIN_VALUE);
    }

    private static void makeRefused() {
        ColouredHeap x = new ColouredHeap(4);
        for (int root : NO_ROOTS) {
            due("make no root", x.make(root, 0, 1), BAD);
        }
        for (int n : new int[] {-1, 4, Integer.MIN_VALUE, Integer.MAX_VALUE}) {
            due("make wrong n", x.make(0, n, 1), BAD);
        }
        due("refused make uses nothing", x.page(0, 0), 0);
        due("refused make leaves the root", x.place(0), EMPTY);
    }

    private static void makeFull() {
        ColouredHeap x = new ColouredHeap(4);
        for (int i = 0; i < 31; i++) {
            due("make of 32", x.make(0, 3, i), 4 * i);
        }
        due("make 3 words", x.make(1, 2, 77), 124);
        due("full for 2 words", x.make(1, 1, 78), FULL);
        due("full for 4 words", x.make(1, 3, 78), FULL);
        due("BAD before FULL, root", x.make(6, 3, 78), BAD);
        due("BAD before FULL, n", x.make(1, 4, 78), BAD);
        due("root stays when full", x.place(1), 124);
        due("value stays when full", x.value(1), 77);
        due("page 7 stays allocating", x.page(7, 0), 2);
        due("page 7 used stays", x.page(7, 1), 15);
        due("the last word", x.make(2, 0, 79), 127);
        due("full for 1 word", x.make(2, 0, 80), FULL);
        due("last word's value", x.value(2), 79);
        x.collect(1);
        due("full without allocating page", x.make(2, 0, 80), FULL);
    }

    private static void makeColour() {
        ColouredHeap x = new ColouredHeap(1);
        due("made idle", madeColour(x), 3);
        x.collect(1);
        due("made marking, first cycle", madeColour(x), 1);
        due("made marking is not marked", x.page(1, 2), 0);
        due("made marking is not on the stack", x.stack(), 1);
        x.collect(2);
        due("relocating", x.phase(), 2);
        due("made relocating", madeColour(x), 3);
        stepTo(x, 0);
        stepTo(x, 1);
        due("made marking, second cycle", madeColour(x), 2);
        stepTo(x, 0);
        stepTo(x, 1);
        due("made marking, third cycle", madeColour(x), 1);
    }

    /** The colour of a new object's reference, read from a field that it was stored into. */
    private static int madeColour(ColouredHeap x) {
        x.make(5, 1, 0);
        x.store(5, 0, 5);
        return x.colour(5, 0);
    }

    /** Single steps until the phase is that one; a cycle of these small heaps has far fewer than 100. */
    private static void stepTo(ColouredHeap x, int phase) {
        for (int i = 0; i < 100 && (i == 0 || x.phase() != phase); i++) {
            x.collect(1);
        }
        due("phase reached", x.phase(), phase);
    }

    private static void makeClearsOldFields() {
        ColouredHeap x = new ColouredHeap(1);
        x.make(0, 3, 1);
        for (int f = 0; f < 3; f++) {
            x.store(0, f, 0);
        }
        x.drop(0);
        due("mark and free", x.collect(2), 2);
        due("page 0 free", x.page(0, 0), 0);
        due("made in the old words", x.make(0, 3, 2), 0);
        for (int f = 0; f < 3; f++) {
            due("new field holds nothing", x.colour(0, f), 0);
            due("nothing behind new field", x.behind(0, f), BAD);
        }
    }

    // Promise 3

    private static void load() {
        ColouredHeap x = new ColouredHeap(4);
        x.make(0, 2, 1);
        x.make(1, 0, 2);
        x.store(0, 1, 1);
        due("load a reference", x.load(2, 0, 1), 1);
        due("loaded place", x.place(2), 3);
        due("load nothing", x.load(1, 0, 0), 0);
        due("loaded nothing", x.place(1), EMPTY);
        due("load over itself", x.load(0, 0, 1), 1);
        due("loaded over itself", x.place(0), 3);
        due("load does not heal a good colour", x.healed(), 0);

        for (int root : NO_ROOTS) {
            due("load to no root", x.load(root, 0, 0), BAD);
            due("load to no root, from an empty one", x.load(root, 5, 0), BAD);
            due("load from no root", x.load(0, root, 0), BAD);
        }
        due("load from empty", x.load(0, 5, 0), EMPTY);
        due("EMPTY before a wrong field", x.load(0, 5, 9), EMPTY);
        x.make(3, 2, 4);
        due("load field 2 of 2", x.load(0, 3, 2), BAD);
        due("load field -1", x.load(0, 3, -1), BAD);
        due("load field least", x.load(0, 3, Integer.MIN_VALUE), BAD);
        due("load field most", x.load(0, 3, Integer.MAX_VALUE), BAD);
        due("refused load leaves the root", x.place(0), 3);
    }

    /** Root 0 holds a at 0, a.0 holds b at 2, b.0 holds c at 4; page 0 has nothing else. */
    private static ColouredHeap chain(int threshold) {
        ColouredHeap x = new ColouredHeap(threshold);
        x.make(0, 1, 1);
        x.make(1, 1, 2);
        x.make(2, 1, 3);
        x.store(0, 0, 1);
        x.store(1, 0, 2);
        x.drop(1);
        x.drop(2);
        return x;
    }

    private static void loadHealsWhenMarking() {
        ColouredHeap x = chain(16);
        x.collect(1);
        due("before load, marked", x.page(0, 2), 1);
        due("load when marking", x.load(1, 0, 0), 1);
        due("load marks", x.page(0, 2), 2);
        due("load puts on the stack", x.stack(), 2);
        due("load colours the field", x.colour(0, 0), 1);
        due("load of a field of it", x.load(2, 1, 0), 1);
        due("load marks once more", x.page(0, 2), 3);
        due("load of a good field", x.load(3, 0, 0), 1);
        due("load again marks no more", x.stack(), 3);
        due("healed: root and two fields", x.healed(), 3);
    }

    private static void loadHealsWhenRelocating() {
        ColouredHeap x = chain(16);
        x.collect(4);
        due("stack drained", x.stack(), 0);
        x.collect(1);
        due("relocating", x.phase(), 2);
        due("a moved", x.place(0), 16);
        due("a.0 not healed", x.behind(0, 0), 2);
        due("a.0 keeps its colour when moved", x.colour(0, 0), 1);
        due("load moves b", x.load(1, 0, 0), 1);
        due("b's new place", x.place(1), 18);
        due("a.0 is healed", x.behind(0, 0), 18);
        due("a.0 is good", x.colour(0, 0), 3);
        due("b.0 not healed", x.behind(1, 0), 4);
        due("forwardings", x.page(0, 4), 2);
        due("moved", x.moved(), 2);
        due("b's value", x.value(1), 2);
        due("page 0 still in the set", x.page(0, 0), 4);
        x.collect(1);
        due("c moved by a step, page 0 free", x.page(0, 0), 0);
        due("load by forwarding", x.load(2, 1, 0), 1);
        due("c's place", x.place(2), 20);
        due("moved only once", x.moved(), 3);
        due("c's value", x.value(2), 3);
    }

    private static void loadHealsWhenIdle() {
        ColouredHeap x = chain(16);
        x.collect(8);
        due("idle again", x.phase(), 0);
        due("a.0 as it was", x.behind(0, 0), 2);
        due("a.0 colour as it was", x.colour(0, 0), 1);
        int healed = x.healed();
        due("load when idle", x.load(1, 0, 0), 1);
        due("by forwarding", x.place(1), 18);
        due("coloured 3", x.colour(0, 0), 3);
        due("healed when idle", x.healed(), healed + 1);
        due("no object moved", x.moved(), 3);

        x = chain(1);
        x.collect(6);
        due("idle, none moved", x.phase(), 0);
        due("none moved", x.moved(), 0);
        due("bad colour without forwarding", x.colour(0, 0), 1);
        due("load it", x.load(1, 0, 0), 1);
        due("place stays", x.place(1), 2);
        due("colour 3", x.colour(0, 0), 3);
    }

    /**
     * Eight full pages: root 0 is an object at 0 that holds another one at 4, and each of the pages
     * 1 .. 7 is kept above the threshold by a chain of objects that root 1 begins.
     */
    private static ColouredHeap fullHeap(int threshold) {
        ColouredHeap x = new ColouredHeap(threshold);
        x.make(0, 3, 100);
        x.make(1, 3, 104);
        x.store(0, 0, 1);
        x.make(1, 3, 108);
        x.make(1, 3, 112);
        x.drop(1);
        for (int place = 16; place < 128; place += 4) {
            due("fill", x.make(2, 3, place), place);
            x.store(2, 0, 1);
            x.copy(1, 2);
        }
        x.drop(2);
        return x;
    }

    private static void loadWithoutRoom() {
        ColouredHeap x = fullHeap(15);
        x.collect(1 + 28 + 1 + 1);
        due("full heap marked", x.stack(), 0);
        due("full heap, still marking", x.phase(), 1);
        x.collect(1);
        due("no room: page 0 has left the set", x.page(0, 0), 1);
        due("no room: root stays", x.place(0), 0);
        due("no room: root is coloured", x.healed(), 2 + 28 + 2);
        due("no room: none moved", x.moved(), 0);
        due("no room: no forwarding", x.page(0, 4), 0);
        due("load in the page that left", x.load(3, 0, 0), 1);
        due("its place stays", x.place(3), 4);
        due("its colour is good", x.colour(0, 0), 3);
        due("set is empty", x.collect(1), 0);

        // Here page 0 is reached by fields alone, so that it is still in the set when they are loaded.
        x = fullHeap(15);
        x.copy(2, 1);
        x.store(2, 1, 0);
        x.store(2, 2, 0);
        x.drop(0);
        x.collect(1 + 30);
        due("all marked", x.stack(), 0);
        x.collect(1);
        due("page 0 in the set", x.page(0, 0), 4);
        int healed = x.healed();
        due("load without room", x.load(3, 1, 1), 1);
        due("place stays", x.place(3), 0);
        due("field's place stays", x.behind(1, 1), 0);
        due("field's colour is good", x.colour(1, 1), 3);
        due("page left the set", x.page(0, 0), 1);
        due("none was moved", x.moved(), 0);
        due("it counts as healed", x.healed(), healed + 1);
        due("both are still marked", x.page(0, 2), 2);
        due("page stays a candidate", x.page(0, 3), 1);
        due("page keeps its words", x.page(0, 1), 16);
        due("a second load", x.load(4, 1, 2), 1);
        due("finds it there, too", x.place(4), 0);
        due("the set is empty now", x.collect(1), 0);
    }

    // Promise 4

    private static void store() {
        ColouredHeap x = new ColouredHeap(4);
        x.make(0, 2, 1);
        x.make(1, 0, 2);
        due("store a reference", x.store(0, 1, 1), 0);
        due("stored place", x.behind(0, 1), 3);
        due("stored colour", x.colour(0, 1), 3);
        due("the other field", x.colour(0, 0), 0);
        due("store over it", x.store(0, 1, 0), 0);
        due("stored itself", x.behind(0, 1), 0);
        due("store nothing", x.store(0, 1, 5), 0);
        due("stored nothing", x.colour(0, 1), 0);
        x.collect(1);
        due("store when marking", x.store(0, 0, 1), 0);
        due("stored with the root's colour", x.colour(0, 0), 1);

        for (int root : NO_ROOTS) {
            due("store to no root", x.store(root, 0, 0), BAD);
            due("store of no root", x.store(0, 1, root), BAD);
            due("store of no root to empty", x.store(5, 0, root), BAD);
        }
        due("store to empty", x.store(5, 0, 0), EMPTY);
        due("store to empty, wrong field", x.store(5, 3, 0), EMPTY);
        due("store field 2 of 2", x.store(0, 2, 1), BAD);
        due("store field -1", x.store(0, -1, 1), BAD);
        due("store field least", x.store(0, Integer.MIN_VALUE, 1), BAD);
        due("store field most", x.store(0, Integer.MAX_VALUE, 1), BAD);
        due("refused store changes nothing", x.colour(0, 1), 0);
        due("store heals nothing", x.healed(), 2);
    }

    // Promise 5

    private static void copy() {
        ColouredHeap x = new ColouredHeap(4);
        x.make(0, 1, 1);
        x.make(1, 1, 2);
        due("copy", x.copy(5, 0), true);
        due("copied place", x.place(5), 0);
        due("source stays", x.place(0), 0);
        due("the same object", x.set(5, 9), true);
        due("value by the other root", x.value(0), 9);
        due("copy nothing", x.copy(1, 4), true);
        due("copied nothing", x.place(1), EMPTY);
        due("copy to itself", x.copy(0, 0), true);
        due("copied to itself", x.place(0), 0);
        for (int root : NO_ROOTS) {
            due("copy to no root", x.copy(root, 0), false);
            due("copy from no root", x.copy(0, root), false);
        }
        due("refused copy changes nothing", x.place(0), 0);
    }

    // Promise 6

    private static void drop() {
        ColouredHeap x = new ColouredHeap(4);
        x.make(0, 1, 1);
        x.copy(1, 0);
        due("drop", x.drop(0), true);
        due("dropped", x.place(0), EMPTY);
        due("the other root stays", x.place(1), 0);
        due("drop again", x.drop(0), false);
        for (int root : NO_ROOTS) {
            due("drop no root", x.drop(root), false);
        }
        x.drop(1);
        x.collect(2);
        due("dropped object's page is freed", x.page(0, 0), 0);
    }

    // Promise 7

    private static void value() {
        ColouredHeap x = chain(16);
        due("value", x.value(0), 1);
        due("value of an empty root", x.value(4), 0);
        for (int root : NO_ROOTS) {
            due("value of no root", x.value(root), 0);
        }
        x.collect(5);
        due("moved", x.place(0), 16);
        due("value of the moved", x.value(0), 1);
    }

    // Promise 8

    private static void set() {
        ColouredHeap x = chain(16);
        due("set", x.set(0, Integer.MAX_VALUE), true);
        due("value set", x.value(0), Integer.MAX_VALUE);
        due("set empty", x.set(4, 1), false);
        for (int root : NO_ROOTS) {
            due("set no root", x.set(root, 1), false);
        }
        x.collect(5);
        due("value set before the move", x.value(0), Integer.MAX_VALUE);
        due("set the moved", x.set(0, -3), true);
        x.collect(3);
        due("value set after the move", x.value(0), -3);
        due("loaded from a", x.load(1, 0, 0), 1);
        due("b's value is its own", x.value(1), 2);
    }

    // Promise 9

    private static void fields() {
        ColouredHeap x = new ColouredHeap(16);
        for (int n = 0; n <= 3; n++) {
            x.make(n, n, 0);
            due("fields", x.fields(n), n);
        }
        due("fields of empty", x.fields(4), EMPTY);
        for (int root : NO_ROOTS) {
            due("fields of no root", x.fields(root), BAD);
        }
        x.collect(1 + 4 + 1);
        for (int n = 0; n <= 3; n++) {
            due("fields after the move", x.fields(n), n);
        }
    }

    // Promise 10

    private static void place() {
        ColouredHeap x = new ColouredHeap(16);
        x.make(0, 3, 0);
        x.make(1, 0, 0);
        due("place 0", x.place(0), 0);
        due("place 1", x.place(1), 4);
        due("place of empty", x.place(5), EMPTY);
        for (int root : NO_ROOTS) {
            due("place of no root", x.place(root), BAD);
        }
        x.drop(1);
        due("place of dropped", x.place(1), EMPTY);
    }

    // Promise 11

    private static void colour() {
        ColouredHeap x = chain(16);
        due("colour idle", x.colour(0, 0), 3);
        x.collect(1);
        due("colour is not healed", x.colour(0, 0), 3);
        due("colour does not mark", x.stack(), 1);
        due("colour does not count", x.healed(), 1);
        x.collect(1);
        due("colour first cycle", x.colour(0, 0), 1);
        stepTo(x, 0);
        stepTo(x, 1);
        due("colour of the last cycle", x.colour(0, 0), 1);
        x.collect(1);
        due("colour second cycle", x.colour(0, 0), 2);

        x.make(1, 2, 0);
        due("colour of nothing", x.colour(1, 1), 0);
        due("colour of empty", x.colour(5, 0), EMPTY);
        due("colour of empty, wrong field", x.colour(5, 7), EMPTY);
        due("colour field 2 of 2", x.colour(1, 2), BAD);
        due("colour field -1", x.colour(1, -1), BAD);
        due("colour field least", x.colour(1, Integer.MIN_VALUE), BAD);
        due("colour field most", x.colour(1, Integer.MAX_VALUE), BAD);
        for (int root : NO_ROOTS) {
            due("colour of no root", x.colour(root, 0), BAD);
        }
    }

    // Promise 12

    private static void behind() {
        ColouredHeap x = chain(16);
        due("behind", x.behind(0, 0), 2);
        x.collect(8);
        due("behind is not healed", x.behind(0, 0), 2);
        due("behind does not count", x.healed(), 4);
        x.load(1, 0, 0);
        due("behind after load", x.behind(0, 0), 18);

        x.make(1, 2, 0);
        due("behind nothing", x.behind(1, 1), BAD);
        due("behind empty", x.behind(5, 0), EMPTY);
        due("behind empty, wrong field", x.behind(5, 7), EMPTY);
        due("behind field 2 of 2", x.behind(1, 2), BAD);
        due("behind field -1", x.behind(1, -1), BAD);
        due("behind field least", x.behind(1, Integer.MIN_VALUE), BAD);
        due("behind field most", x.behind(1, Integer.MAX_VALUE), BAD);
        for (int root : NO_ROOTS) {
            due("behind no root", x.behind(root, 0), BAD);
        }
    }

    // Promise 13

    private static void collect() {
        ColouredHeap x = new ColouredHeap(4);
        due("collect 0", x.collect(0), 0);
        due("collect 0 does nothing", x.cycles(), 0);
        for (int n : new int[] {-1, 101, Integer.MIN_VALUE, Integer.MAX_VALUE}) {
            due("collect wrong n", x.collect(n), BAD);
        }
        due("refused collect does nothing", x.cycles(), 0);
        due("collect 1", x.collect(1), 1);
        due("collect 0 when marking", x.collect(0), 1);
        due("collect 1 more", x.collect(1), 2);
        due("collect 0 when relocating", x.collect(0), 2);
        due("collect 1 more again", x.collect(1), 0);
        due("collect 100", x.collect(100), 1);
        due("an empty heap's cycle has three steps", x.cycles(), 1 + 34);
    }

    private static void collectLiveAndDead() {
        ColouredHeap x = new ColouredHeap(4);
        for (int i = 0; i < 12; i++) {
            x.make(i == 0 ? 0 : i < 8 ? 1 : 2, 3, i);
        }
        x.copy(3, 2);
        x.make(2, 3, 12);
        x.store(2, 0, 3);
        x.drop(3);
        x.drop(1);
        // Page 0: root 0 alone. Page 1: dead. Page 2: object 11 by field. Page 3: root 2.
        x.collect(1 + 3);
        due("marked, page 0", x.page(0, 2), 1);
        due("marked, page 1", x.page(1, 2), 0);
        due("marked, page 2", x.page(2, 2), 1);
        due("marked, page 3", x.page(3, 2), 1);
        due("before judgement", x.page(1, 0), 1);
        x.collect(1);
        due("dead page was freed and used for the move", x.page(1, 0), 2);
        due("dead page is no candidate", x.page(1, 3), 0);
        due("page 0 in the set", x.page(0, 0), 4);
        due("page 2 in the set", x.page(2, 0), 4);
        due("page 3 in the set", x.page(3, 0), 4);
        due("root 0 moved to the least free page", x.place(0), 16);
        due("root 2 moved behind it", x.place(2), 20);
        due("least page first", x.collect(1), 2);
        due("page 0 free", x.page(0, 0), 0);
        due("page 2 waits", x.page(2, 0), 4);
        x.collect(1);
        due("page 2 free", x.page(2, 0), 0);
        due("page 3 waits", x.page(3, 0), 4);
        x.collect(1);
        due("page 3 free", x.page(3, 0), 0);
        due("not idle before one step more", x.phase(), 2);
        due("idle", x.collect(1), 0);
        due("forwardings of free pages stay", x.page(0, 4) + x.page(2, 4) + x.page(3, 4), 3);
        due("page 1 used", x.page(1, 1), 12);
        due("moved three", x.moved(), 3);
    }

    private static void collectCandidatesOnly() {
        ColouredHeap x = new ColouredHeap(16);
        x.make(0, 0, 1);
        x.collect(1);
        due("no page is allocating after the beginning", x.page(0, 0), 1);
        due("made in a new page", x.make(1, 0, 2), 16);
        due("page 1 is no candidate", x.page(1, 3), 0);
        x.drop(1);
        x.collect(2);
        due("unmarked page that is no candidate stays", x.page(1, 0), 2);
        due("page 0's object moved into it", x.place(0), 17);
        x.collect(2);
        due("idle", x.phase(), 0);
        x.collect(1);
        due("page 1 is a candidate in the next cycle", x.page(1, 3), 1);
        due("page 0 is none", x.page(0, 3), 0);
    }

    private static void collectLeastPlaceFirst() {
        ColouredHeap x = new ColouredHeap(16);
        x.make(0, 2, 1);
        x.make(1, 0, 2);
        x.make(2, 1, 3);
        x.store(0, 0, 2);
        x.store(0, 1, 1);
        x.drop(1);
        x.drop(2);
        x.collect(1 + 3 + 1);
        due("root's object moved", x.place(0), 16);
        x.collect(1);
        due("one moved", x.moved(), 2);
        due("one marked left", x.page(0, 2), 1);
        due("page 0 still in the set", x.page(0, 0), 4);
        x.collect(1);
        due("page 0 free", x.page(0, 0), 0);
        x.load(1, 0, 1);
        due("least place moved first", x.place(1), 19);
        x.load(2, 0, 0);
        due("next place moved next", x.place(2), 20);
    }

    private static void collectRootsMovedInOrder() {
        ColouredHeap x = new ColouredHeap(16);
        x.make(5, 0, 1);
        x.make(0, 1, 2);
        x.copy(3, 5);
        x.collect(1 + 2 + 1);
        due("root 0 first", x.place(0), 16);
        due("root 3 next", x.place(3), 18);
        due("root 5 by forwarding", x.place(5), 18);
        due("two moved", x.moved(), 2);
        due("six healed", x.healed(), 6);
    }

    private static void collectWithoutRoom() {
        // Page 0 holds a (4 words, root 0), b (behind a.0) and dead words, page 7 has one word left.
        ColouredHeap x = new ColouredHeap(9);
        x.make(0, 3, 1);
        x.make(1, 3, 2);
        x.store(0, 0, 1);
        x.make(2, 0, 3);
        x.store(0, 1, 2);
        x.drop(1);
        x.drop(2);
        x.make(3, 3, 0);
        x.make(3, 2, 0);
        x.drop(3);
        for (int place = 16; place < 112; place += 4) {
            due("fill", x.make(4, 3, place), place);
            x.store(4, 0, 3);
            x.copy(3, 4);
        }
        x.drop(4);
        x.collect(1);
        // Made while marking, so page 7 is no candidate.
        for (int place = 112; place < 124; place += 4) {
            due("fill page 7", x.make(4, 3, place), place);
        }
        due("two words", x.make(4, 1, 0), 124);
        due("one word", x.make(4, 0, 0), 126);
        x.collect(3 + 24);
        due("all marked", x.stack(), 0);
        x.collect(1);
        due("a has no room", x.place(0), 0);
        due("page 0 left the set", x.page(0, 0), 1);
        due("a is still marked", x.page(0, 2), 3);
        due("idle at once, the set being empty", x.collect(1), 0);
        due("none moved", x.moved(), 0);
        x.load(5, 0, 1);
        due("small one would have had room but its page left", x.place(5), 8);

        // In the next cycle page 7 is freed but for what root 4 holds, and there is room again.
        x.drop(4);
        x.drop(5);
        x.collect(1 + 3 + 24 + 1);
        due("page 7 is free for a", x.place(0), 112);
        due("page 0 is in the set", x.page(0, 0), 4);
        due("page 7 is allocating", x.page(7, 0), 2);
        x.collect(2);
        due("page 0 free", x.page(0, 0), 0);
        due("three moved", x.moved(), 3);

        stepWithoutRoom();
    }

    /** A step, not a root, finds no room: some objects of the page were moved, others stay. */
    private static void stepWithoutRoom() {
        ColouredHeap x = new ColouredHeap(8);
        x.make(0, 1, 1);
        x.make(1, 1, 2);
        x.make(2, 3, 3);
        x.store(0, 0, 1);
        x.store(1, 0, 2);
        x.drop(1);
        x.drop(2);
        x.make(3, 3, 0);
        x.make(3, 3, 0);
        x.drop(3);
        for (int place = 16; place < 112; place += 4) {
            due("fill", x.make(4, 3, place), place);
            x.store(4, 0, 3);
            x.copy(3, 4);
        }
        x.drop(4);
        x.collect(1);
        for (int place = 112; place < 124; place += 4) {
            x.make(4, 3, place);
        }
        x.collect(3 + 24 + 1);
        due("a moved", x.place(0), 124);
        due("page 0 in the set", x.page(0, 0), 4);
        x.collect(1);
        due("b moved", x.moved(), 2);
        due("page 7 is full", x.page(7, 1), 16);
        due("c is left", x.page(0, 2), 1);
        due("page 0 still in the set", x.page(0, 0), 4);
        due("a step without room", x.collect(1), 2);
        due("page 0 left the set", x.page(0, 0), 1);
        due("page 0 keeps its words", x.page(0, 1), 16);
        due("page 0 keeps its forwardings", x.page(0, 4), 2);
        due("c is still marked", x.page(0, 2), 1);
        due("idle", x.collect(1), 0);
        x.load(1, 0, 0);
        due("b by forwarding", x.place(1), 126);
        x.load(2, 1, 0);
        due("c where it was", x.place(2), 4);
        due("c's value", x.value(2), 3);
    }

    private static void collectPageEmptiedByLoads() {
        ColouredHeap x = new ColouredHeap(16);
        x.make(0, 0, 1);
        x.collect(3);
        due("the root's object moved", x.moved(), 1);
        due("no marked object, still in the set", x.page(0, 0), 4);
        due("its words are used still", x.page(0, 1), 1);
        due("it is a candidate still", x.page(0, 3), 1);
        due("one step frees it", x.collect(1), 2);
        due("freed", x.page(0, 0), 0);
        due("no words", x.page(0, 1), 0);
        due("no candidate", x.page(0, 3), 0);
        due("its forwarding stays", x.page(0, 4), 1);
        due("the next one ends the cycle", x.collect(1), 0);
    }

    private static void collectForwardingOfOldObject() {
        // a moves 0 -> 16, then a new object b comes to be at 0: its colour 3 is not forwarded.
        ColouredHeap x = new ColouredHeap(16);
        x.make(0, 3, 1);
        x.collect(5);
        due("idle", x.phase(), 0);
        due("a at 16", x.place(0), 16);
        for (int place = 20; place < 32; place += 4) {
            due("fill page 1", x.make(1, 3, 0), place);
        }
        due("b at 0", x.make(1, 1, 2), 0);
        x.store(0, 0, 1);
        due("a forwarding for b's place", x.page(0, 4), 1);
        x.collect(1);
        due("root is not forwarded", x.place(1), 0);
        due("marked in page 0", x.page(0, 2), 1);
        x.drop(1);
        x.collect(2);
        due("field is not forwarded", x.behind(0, 0), 0);
        due("field has the colour of cycle 2", x.colour(0, 0), 2);
        due("forwardings are there while marking", x.page(0, 4), 1);
        x.collect(1);
        due("relocating", x.phase(), 2);
        due("no old forwarding", x.page(0, 4), 0);
        due("b waits in the set", x.page(0, 0), 4);
    }

    private static void collectForwardingInNextMarking() {
        ColouredHeap x = chain(16);
        x.collect(8);
        due("a.0 not healed since", x.behind(0, 0), 2);
        x.collect(1);
        due("a.0 not healed by the beginning", x.behind(0, 0), 2);
        x.collect(1);
        due("a.0 forwarded when marking", x.behind(0, 0), 18);
        due("b marked in its new page", x.page(1, 2), 2);
        due("colour 2", x.colour(0, 0), 2);
        due("b on the stack", x.stack(), 1);
    }

    // Promise 14

    private static void phase() {
        ColouredHeap x = chain(4);
        int[] phases = {1, 1, 1, 1, 2, 0, 1};
        for (int phase : phases) {
            x.collect(1);
            due("phase by steps", x.phase(), phase);
        }
    }

    // Promise 15

    private static void stack() {
        ColouredHeap x = new ColouredHeap(4);
        x.make(0, 3, 1);
        x.make(1, 0, 2);
        x.make(2, 0, 3);
        x.store(0, 0, 1);
        x.store(0, 1, 2);
        x.store(0, 2, 0);
        x.copy(5, 0);
        x.drop(1);
        x.drop(2);
        x.collect(1);
        due("stack: one object, two roots", x.stack(), 1);
        x.collect(1);
        due("stack: two fields, itself not again", x.stack(), 2);
        x.collect(1);
        due("stack: one taken off", x.stack(), 1);
        x.collect(1);
        due("stack: empty", x.stack(), 0);
        due("still marking", x.phase(), 1);
    }

    private static void stackIsLastInFirstOut() {
        ColouredHeap x = new ColouredHeap(4);
        for (int root = 0; root < 3; root++) {
            x.make(root, 1, root);
            x.store(root, 0, root);
        }
        x.collect(2);
        due("root 2's object was taken first", x.colour(2, 0), 1);
        due("root 1's waits", x.colour(1, 0), 3);
        due("root 0's waits", x.colour(0, 0), 3);
        x.collect(1);
        due("root 1's was next", x.colour(1, 0), 1);
        due("root 0's waits still", x.colour(0, 0), 3);

        // Fields are healed first to last, so that the last field's object is taken next.
        x = new ColouredHeap(4);
        x.make(0, 2, 0);
        x.make(1, 1, 1);
        x.store(0, 0, 1);
        x.store(1, 0, 1);
        x.make(2, 1, 2);
        x.store(0, 1, 2);
        x.store(2, 0, 2);
        x.drop(1);
        x.drop(2);
        x.collect(3);
        x.load(1, 0, 0);
        x.load(2, 0, 1);
        due("first field's object waits", x.colour(1, 0), 3);
        due("last field's object was taken", x.colour(2, 0), 1);
    }

    // Promise 16

    private static void page() {
        ColouredHeap x = new ColouredHeap(4);
        for (int page : new int[] {-1, 8, Integer.MIN_VALUE, Integer.MAX_VALUE}) {
            for (int what = -1; what <= 5; what++) {
                due("page wrong page", x.page(page, what), BAD);
            }
        }
        for (int what : new int[] {-1, 5, Integer.MIN_VALUE, Integer.MAX_VALUE}) {
            due("page wrong what", x.page(0, what), BAD);
            due("page wrong what, last page", x.page(7, what), BAD);
        }
        x.make(0, 3, 1);
        due("allocating", x.page(0, 0), 2);
        due("used", x.page(0, 1), 4);
        due("no candidate before a cycle", x.page(0, 3), 0);
        x.collect(1);
        due("in use", x.page(0, 0), 1);
        due("marked", x.page(0, 2), 1);
        due("candidate", x.page(0, 3), 1);
        due("free page is no candidate", x.page(1, 3), 0);
        x.collect(2);
        due("in the set", x.page(0, 0), 4);
        due("forwarding", x.page(0, 4), 1);
        due("other page's forwardings", x.page(1, 4), 0);
        due("allocating for the moved", x.page(1, 0), 2);

        x = new ColouredHeap(1);
        x.make(0, 3, 1);
        x.collect(4);
        due("idle", x.phase(), 0);
        due("marks stay", x.page(0, 2), 1);
        due("candidates stay", x.page(0, 3), 1);
        due("in use", x.page(0, 0), 1);
        x.drop(0);
        x.collect(1);
        due("marks of the last cycle are gone", x.page(0, 2), 0);
    }

    private static void pageMarksAfterMove() {
        ColouredHeap x = new ColouredHeap(16);
        x.make(0, 1, 1);
        x.make(1, 0, 1);
        x.store(0, 0, 1);
        x.drop(1);
        x.collect(3);
        due("two marked", x.page(0, 2), 2);
        x.collect(1);
        due("the moved is not marked here", x.page(0, 2), 1);
        due("nor there", x.page(1, 2), 0);
    }

    // Promise 17

    private static void healed() {
        ColouredHeap x = chain(16);
        x.copy(5, 0);
        x.load(1, 0, 0);
        due("good colours are not healed", x.healed(), 0);
        x.drop(1);
        x.collect(1);
        due("two roots", x.healed(), 2);
        x.collect(3);
        due("and two fields (c's holds nothing)", x.healed(), 4);
        x.collect(1);
        due("and two roots", x.healed(), 6);
        x.load(1, 0, 0);
        due("and a field", x.healed(), 7);
        x.load(1, 0, 0);
        due("which is good now", x.healed(), 7);
        x.drop(1);
        x.collect(2);
        due("moving by a step heals nothing", x.healed(), 7);
        due("idle", x.phase(), 0);
    }

    // Promise 18

    private static void moved() {
        ColouredHeap x = chain(16);
        x.collect(4);
        due("none before relocating", x.moved(), 0);
        x.collect(1);
        due("the root's", x.moved(), 1);
        x.load(1, 0, 0);
        due("by a load", x.moved(), 2);
        x.collect(1);
        due("by a step", x.moved(), 3);
        x.collect(1);
        due("none more", x.moved(), 3);
        x.collect(1 + 3 + 1);
        due("next cycle, roots 0 and 1", x.moved(), 5);
    }

    // Promise 19

    private static void cycles() {
        ColouredHeap x = new ColouredHeap(4);
        due("none", x.cycles(), 0);
        x.collect(1);
        due("the first", x.cycles(), 1);
        x.collect(2);
        due("it ended, none began", x.cycles(), 1);
        x.collect(1);
        due("the second", x.cycles(), 2);
    }
}
