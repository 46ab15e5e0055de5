/**
 * A heap whose collector works step by step while the program goes on.
 *
 * <p>Every place where a reference can stand is a slot: slot w is word w of the heap (used when
 * that word is a field of an object), slot PLACES + r is root r. So fields and roots are healed
 * and copied by the same code.
 */
public final class ColouredHeap {
    public static final int BAD = -1;
    public static final int EMPTY = -2;
    public static final int FULL = -3;

    private static final int PAGES = 8;
    private static final int PAGE_WORDS = 16;
    private static final int PLACES = PAGES * PAGE_WORDS;
    private static final int ROOTS = 6;
    private static final int SLOTS = PLACES + ROOTS;
    private static final int MOST_FIELDS = 3;
    private static final int MOST_STEPS = 100;

    private static final int IDLE = 0;
    private static final int MARKING = 1;
    private static final int RELOCATING = 2;

    /** The colour of a slot that holds nothing. */
    private static final int NO_COLOUR = 0;
    private static final int ODD_CYCLE_COLOUR = 1;
    private static final int EVEN_CYCLE_COLOUR = 2;
    private static final int UNMARKING_COLOUR = 3;

    /** Stands for a page or a place that there is not. */
    private static final int NONE = -1;

    private final int threshold;

    private final int[] slotPlace = new int[SLOTS];
    private final int[] slotColour = new int[SLOTS];

    /** The next four are told by the place of an object (or of one that was moved away). */
    private final int[] objectValue = new int[PLACES];
    private final int[] objectFields = new int[PLACES];
    private final boolean[] marked = new boolean[PLACES];
    private final int[] forwarding = new int[PLACES];

    /** No object is marked twice in a cycle, so there is room for all that are put on the stack. */
    private final int[] markStack = new int[PLACES];
    private int markStackSize = 0;

    /** A page in use has at least one word used, so 0 means that the page is free. */
    private final int[] usedWords = new int[PAGES];
    private final boolean[] candidate = new boolean[PAGES];
    private final boolean[] inRelocationSet = new boolean[PAGES];
    private int allocatingPage = NONE;

    private int currentPhase = IDLE;
    private int healCount = 0;
    private int moveCount = 0;
    private int cycleCount = 0;

    public ColouredHeap(int threshold) {
        this.threshold = Math.max(1, Math.min(PAGE_WORDS, threshold));
        for (int place = 0; place < PLACES; place++) {
            forwarding[place] = NONE;
        }
    }

    public int make(int root, int n, int value) {
        if (!isRoot(root) || n < 0 || n > MOST_FIELDS) {
            return BAD;
        }
        int place = takeRoom(n + 1);
        if (place == NONE) {
            return FULL;
        }
        objectValue[place] = value;
        objectFields[place] = n;
        for (int slot = place + 1; slot <= place + n; slot++) {
            slotColour[slot] = NO_COLOUR;
        }
        slotPlace[PLACES + root] = place;
        slotColour[PLACES + root] = goodColour();
        return place;
    }

    public int load(int to, int from, int f) {
        if (!isRoot(to)) {
            return BAD;
        }
        int slot = fieldSlot(from, f);
        if (slot < 0) {
            return slot;
        }
        heal(slot);
        copySlot(slot, PLACES + to);
        return holdsNothing(slot) ? 0 : 1;
    }

    public int store(int from, int f, int root) {
        if (!isRoot(root)) {
            return BAD;
        }
        int slot = fieldSlot(from, f);
        if (slot < 0) {
            return slot;
        }
        copySlot(PLACES + root, slot);
        return 0;
    }

    public boolean copy(int to, int from) {
        if (!isRoot(to) || !isRoot(from)) {
            return false;
        }
        copySlot(PLACES + from, PLACES + to);
        return true;
    }

    public boolean drop(int root) {
        if (!isRoot(root) || holdsNothing(PLACES + root)) {
            return false;
        }
        slotColour[PLACES + root] = NO_COLOUR;
        return true;
    }

    public int value(int root) {
        int place = place(root);
        return place < 0 ? 0 : objectValue[place];
    }

    public boolean set(int root, int value) {
        int place = place(root);
        if (place < 0) {
            return false;
        }
        objectValue[place] = value;
        return true;
    }

    public int fields(int root) {
        int place = place(root);
        return place < 0 ? place : objectFields[place];
    }

    public int place(int root) {
        if (!isRoot(root)) {
            return BAD;
        }
        return holdsNothing(PLACES + root) ? EMPTY : slotPlace[PLACES + root];
    }

    public int colour(int root, int f) {
        int slot = fieldSlot(root, f);
        return slot < 0 ? slot : slotColour[slot];
    }

    public int behind(int root, int f) {
        int slot = fieldSlot(root, f);
        if (slot < 0) {
            return slot;
        }
        return holdsNothing(slot) ? BAD : slotPlace[slot];
    }

    public int collect(int n) {
        if (n < 0 || n > MOST_STEPS) {
            return BAD;
        }
        for (int i = 0; i < n; i++) {
            step();
        }
        return currentPhase;
    }

    public int phase() {
        return currentPhase;
    }

    public int stack() {
        return markStackSize;
    }

    public int page(int page, int what) {
        if (page < 0 || page >= PAGES) {
            return BAD;
        }
        switch (what) {
            case 0:
                return pageState(page);
            case 1:
                return usedWords[page];
            case 2:
                return markedObjects(page);
            case 3:
                return candidate[page] ? 1 : 0;
            case 4:
                return forwardings(page);
            default:
                return BAD;
        }
    }

    public int healed() {
        return healCount;
    }

    public int moved() {
        return moveCount;
    }

    public int cycles() {
        return cycleCount;
    }

    private static boolean isRoot(int root) {
        return root >= 0 && root < ROOTS;
    }

    private static int pageOf(int place) {
        return place / PAGE_WORDS;
    }

    private boolean holdsNothing(int slot) {
        return slotColour[slot] == NO_COLOUR;
    }

    /** The slot of a field of a root's object, or the refusal (less than 0) that is due instead. */
    private int fieldSlot(int root, int f) {
        int place = place(root);
        if (place < 0) {
            return place;
        }
        return f < 0 || f >= objectFields[place] ? BAD : place + 1 + f;
    }

    private void copySlot(int from, int to) {
        slotPlace[to] = slotPlace[from];
        slotColour[to] = slotColour[from];
    }

    private int goodColour() {
        if (currentPhase != MARKING) {
            return UNMARKING_COLOUR;
        }
        return (cycleCount & 1) == 1 ? ODD_CYCLE_COLOUR : EVEN_CYCLE_COLOUR;
    }

    private int pageState(int page) {
        if (usedWords[page] == 0) {
            return 0;
        }
        if (page == allocatingPage) {
            return 2;
        }
        return inRelocationSet[page] ? 4 : 1;
    }

    private int markedObjects(int page) {
        int count = 0;
        for (int i = 0; i < PAGE_WORDS; i++) {
            if (marked[page * PAGE_WORDS + i]) {
                count++;
            }
        }
        return count;
    }

    private int forwardings(int page) {
        int count = 0;
        for (int i = 0; i < PAGE_WORDS; i++) {
            if (forwarding[page * PAGE_WORDS + i] != NONE) {
                count++;
            }
        }
        return count;
    }

    /** The first of so many words, which are used from now on, or NONE when there is no room. */
    private int takeRoom(int words) {
        if (allocatingPage == NONE || usedWords[allocatingPage] + words > PAGE_WORDS) {
            int page = leastFreePage();
            if (page == NONE) {
                return NONE;
            }
            allocatingPage = page;
        }
        int place = allocatingPage * PAGE_WORDS + usedWords[allocatingPage];
        usedWords[allocatingPage] += words;
        return place;
    }

    private int leastFreePage() {
        for (int page = 0; page < PAGES; page++) {
            if (usedWords[page] == 0) {
                return page;
            }
        }
        return NONE;
    }

    private void heal(int slot) {
        int colour = slotColour[slot];
        int good = goodColour();
        if (colour == NO_COLOUR || colour == good) {
            return;
        }
        int place = slotPlace[slot];
        // A reference of colour 3 is newer than every forwarding: a forwarding for its place is
        // that of an object which was there before.
        boolean forwarded = colour != UNMARKING_COLOUR && forwarding[place] != NONE;
        if (forwarded) {
            place = forwarding[place];
        }
        if (currentPhase == MARKING) {
            mark(place);
        } else if (currentPhase == RELOCATING && !forwarded && inRelocationSet[pageOf(place)]) {
            place = moveAway(place);
        }
        slotPlace[slot] = place;
        slotColour[slot] = good;
        healCount++;
    }

    private void healSlots(int first, int count) {
        for (int i = 0; i < count; i++) {
            heal(first + i);
        }
    }

    private void mark(int place) {
        if (!marked[place]) {
            marked[place] = true;
            markStack[markStackSize] = place;
            markStackSize++;
        }
    }

    /** The new place, or the old one when there is no room: then the page leaves the set. */
    private int moveAway(int from) {
        int fields = objectFields[from];
        int to = takeRoom(fields + 1);
        if (to == NONE) {
            inRelocationSet[pageOf(from)] = false;
            return from;
        }
        objectValue[to] = objectValue[from];
        objectFields[to] = fields;
        for (int i = 1; i <= fields; i++) {
            copySlot(from + i, to + i);
        }
        forwarding[from] = to;
        marked[from] = false;
        marked[to] = false;
        moveCount++;
        return to;
    }

    private void step() {
        if (currentPhase == IDLE) {
            beginMarking();
            healSlots(PLACES, ROOTS);
        } else if (currentPhase == RELOCATING) {
            relocateNext();
        } else if (markStackSize > 0) {
            markStackSize--;
            int place = markStack[markStackSize];
            healSlots(place + 1, objectFields[place]);
        } else {
            beginRelocating();
            healSlots(PLACES, ROOTS);
        }
    }

    private void beginMarking() {
        currentPhase = MARKING;
        cycleCount++;
        allocatingPage = NONE;
        for (int place = 0; place < PLACES; place++) {
            marked[place] = false;
        }
        for (int page = 0; page < PAGES; page++) {
            candidate[page] = usedWords[page] > 0;
        }
    }

    private void beginRelocating() {
        for (int place = 0; place < PLACES; place++) {
            forwarding[place] = NONE;
        }
        for (int page = 0; page < PAGES; page++) {
            if (candidate[page]) {
                judge(page);
            }
        }
        currentPhase = RELOCATING;
    }

    private void judge(int page) {
        int live = liveWords(page);
        if (live == 0) {
            becomeFree(page);
        } else if (live <= threshold) {
            inRelocationSet[page] = true;
        }
    }

    private int liveWords(int page) {
        int live = 0;
        for (int i = 0; i < PAGE_WORDS; i++) {
            int place = page * PAGE_WORDS + i;
            if (marked[place]) {
                live += objectFields[place] + 1;
            }
        }
        return live;
    }

    private void becomeFree(int page) {
        usedWords[page] = 0;
        candidate[page] = false;
        inRelocationSet[page] = false;
    }

    private void relocateNext() {
        int page = leastPageOfSet();
        if (page == NONE) {
            currentPhase = IDLE;
            return;
        }
        int place = leastMarkedPlace(page);
        if (place != NONE) {
            moveAway(place);
        }
        if (inRelocationSet[page] && leastMarkedPlace(page) == NONE) {
            becomeFree(page);
        }
    }

    private int leastPageOfSet() {
        for (int page = 0; page < PAGES; page++) {
            if (inRelocationSet[page]) {
                return page;
            }
        }
        return NONE;
    }

    private int leastMarkedPlace(int page) {
        for (int i = 0; i < PAGE_WORDS; i++) {
            if (marked[page * PAGE_WORDS + i]) {
                return page * PAGE_WORDS + i;
            }
        }
        return NONE;
    }
}
