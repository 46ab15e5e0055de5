/** Heaps in states that several tests begin with. The comments say what the document makes of them. */
final class Heaps {
    static final int LEAST = Integer.MIN_VALUE;
    static final int GREATEST = Integer.MAX_VALUE;

    /** Numbers that are no root. */
    static final int[] NO_ROOTS = {-1, 6, LEAST, GREATEST};

    private Heaps() {
    }

    /**
     * Root 0 holds a (place 0), whose field holds b (2), whose field holds c (4), whose field holds
     * nothing. Step 1 begins a cycle, steps 2 .. 4 take a, b, c off the stack, step 5 begins to
     * relocate. With a threshold of 6 or more it moves a to 16; step 6 moves b to 18, step 7 moves c
     * to 20 and frees page 0, step 8 ends the cycle. With a lesser one step 6 ends the cycle.
     */
    static ColouredHeap chain(int threshold) {
        ColouredHeap x = new ColouredHeap(threshold);
        x.make(0, 1, 101);
        x.make(1, 1, 102);
        x.make(2, 1, 103);
        x.store(0, 0, 1);
        x.store(1, 0, 2);
        x.drop(1);
        x.drop(2);
        return x;
    }

    /**
     * Idle after a cycle: root 0 holds a, which was moved from 0 to 16, and root 1 holds b, which was
     * made at 0 later; a's field 0 holds b, too. So there is a forwarding for a place whose object is
     * a newer one.
     */
    static ColouredHeap placeUsedAgain() {
        ColouredHeap x = new ColouredHeap(16);
        x.make(0, 3, 101);
        x.collect(5);
        for (int i = 0; i < 3; i++) {
            x.make(1, 3, 0);
        }
        x.make(1, 1, 102);
        x.store(0, 0, 1);
        return x;
    }

    /**
     * Eight full pages, threshold 15. Page 0 has a (0) and b (4), which a's field 0 holds, and 8 dead
     * words; the 28 objects of the pages 1 .. 7 are all alive, a chain that root 1 begins at 124. If
     * aRoot holds, root 0 holds a; else only field 1 of root 1's object does. The very last word, a
     * field, holds a reference, too. 31 steps mark all of them; step 32 begins to relocate with page 0
     * alone in the set, for which there is no room.
     */
    static ColouredHeap full(boolean aRoot) {
        ColouredHeap x = new ColouredHeap(15);
        x.make(0, 3, 101);
        x.make(1, 3, 102);
        x.store(0, 0, 1);
        x.make(1, 3, 0);
        x.make(1, 3, 0);
        x.drop(1);
        for (int place = 16; place < 128; place += 4) {
            x.make(2, 3, place);
            x.store(2, 0, 1);
            x.copy(1, 2);
        }
        x.drop(2);
        x.store(1, 2, 1);
        if (!aRoot) {
            x.store(1, 1, 0);
            x.drop(0);
        }
        return x;
    }

    /**
     * Relocating, one page of each kind. Page 0 is in the relocation set, with 16 words used, b (2)
     * still marked and a moved from 0 to 32; page 1 is in use, with 16 words used and two marked
     * objects; page 2 is the allocating one, with 2 words used; page 3 is free. A step more moves b
     * to 34 and frees page 0.
     */
    static ColouredHeap everyKindOfPage() {
        ColouredHeap x = new ColouredHeap(4);
        x.make(0, 1, 101);
        x.make(1, 0, 102);
        x.store(0, 0, 1);
        x.drop(1);
        for (int n : new int[] {3, 3, 3, 0}) {
            x.make(2, n, 0);
        }
        x.make(2, 3, 0);
        x.make(3, 3, 0);
        x.make(4, 3, 0);
        x.make(4, 3, 0);
        x.make(4, 3, 0);
        x.drop(4);
        x.collect(1 + 4 + 1);
        return x;
    }

    /**
     * Root 0 holds an object of no field at 0, root 1 one of one field at 1, which holds nothing; the
     * words 1 .. 3 were fields that held references when page 0 was in use before.
     */
    static ColouredHeap oldFieldsAround() {
        ColouredHeap x = new ColouredHeap(4);
        x.make(0, 3, 0);
        for (int f = 0; f < 3; f++) {
            x.store(0, f, 0);
        }
        x.drop(0);
        x.collect(2);
        x.make(0, 0, 101);
        x.make(1, 1, 102);
        return x;
    }

    /** Page 0 is the allocating one, with so many words not used (0 .. 16); roots hold nothing. */
    static ColouredHeap withWordsLeft(int left) {
        ColouredHeap x = new ColouredHeap(4);
        for (int i = 0; i < 16 - left; i++) {
            x.make(0, 0, 0);
        }
        x.drop(0);
        return x;
    }

    /** The colour that a new object's reference has, read from a field that it was stored into. */
    static int colourOfNew(ColouredHeap x, int root) {
        x.make(root, 1, 0);
        x.store(root, 0, root);
        return x.colour(root, 0);
    }

    /** Single steps, at least one, until the phase is that one. */
    static void stepTo(ColouredHeap x, int phase) {
        for (int i = 0; i < 100; i++) {
            if (x.collect(1) == phase) {
                return;
            }
        }
        throw new IllegalStateException("phase " + phase + " is not reached");
    }

    /** Every answer that a heap gives without a change: some 100 calls. */
    static String seen(ColouredHeap x) {
        StringBuilder seen = new StringBuilder();
        for (int root = 0; root < 6; root++) {
            int fields = x.fields(root);
            seen.append(" root ").append(root).append(": ").append(x.place(root));
            seen.append(' ').append(x.value(root)).append(' ').append(fields);
            for (int f = 0; f < fields; f++) {
                seen.append(" (").append(x.colour(root, f)).append(' ').append(x.behind(root, f)).append(')');
            }
        }
        for (int page = 0; page < 8; page++) {
            seen.append(" page ").append(page).append(':');
            for (int what = 0; what <= 4; what++) {
                seen.append(' ').append(x.page(page, what));
            }
        }
        seen.append(" counts: ").append(x.phase()).append(' ').append(x.stack());
        seen.append(' ').append(x.healed()).append(' ').append(x.moved()).append(' ').append(x.cycles());
        return seen.toString();
    }

    /** One refused call of each kind that is refused in every state. */
    static void refuseEachCall(ColouredHeap x) {
        x.make(6, 0, 1);
        x.make(0, 4, 1);
        x.load(6, 0, 0);
        x.load(0, 6, 0);
        x.load(0, 0, 3);
        x.store(6, 0, 0);
        x.store(0, 0, 6);
        x.store(0, 3, 0);
        x.copy(6, 0);
        x.copy(0, 6);
        x.drop(6);
        x.value(6);
        x.set(6, 1);
        x.fields(6);
        x.place(6);
        x.colour(6, 0);
        x.colour(0, 3);
        x.behind(6, 0);
        x.behind(0, 3);
        x.collect(-1);
        x.collect(101);
        x.page(8, 0);
        x.page(0, 5);
    }
}
