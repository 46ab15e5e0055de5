import java.util.Arrays;

/**
 * 'A call that is refused changes nothing': each refusal that a promise names, in every phase. Two
 * heaps are brought to the same state, one of them refuses a call, and from then on both must answer
 * alike.
 */
public final class RefusalTest {
    private static final int BAD = ColouredHeap.BAD;
    private static final int EMPTY = ColouredHeap.EMPTY;
    private static final int FULL = ColouredHeap.FULL;
    private static final int LEAST = Heaps.LEAST;
    private static final int GREATEST = Heaps.GREATEST;

    private static final int[] NO_ROOTS = Heaps.NO_ROOTS;
    private static final int[] EMPTY_ROOTS = {3, 4, 5};
    private static final int[] NO_FIELDS = {-1, 3, LEAST, GREATEST};
    private static final int FALSE = 0;

    private interface State {
        ColouredHeap reach();
    }

    private interface Call {
        long on(ColouredHeap x, int wrong);
    }

    /**
     * The first one is new. In each other one root 0 holds an object of one field or of three; the
     * roots 3 .. 5 hold nothing.
     */
    private static final State[] STATES = {
        () -> new ColouredHeap(4),
        () -> Heaps.chain(16),
        () -> after(Heaps.chain(16), 1),
        () -> after(Heaps.chain(16), 4),
        () -> after(Heaps.chain(16), 5),
        () -> after(Heaps.chain(16), 8),
        () -> after(Heaps.chain(16), 9),
        () -> Heaps.full(true),
        () -> after(Heaps.full(true), 20),
        () -> after(Heaps.full(true), 32),
    };

    private static final State[] WITH_OBJECTS = Arrays.copyOfRange(STATES, 1, STATES.length);

    /** Seven full pages, and page 7 with one word left; root 0 holds an object of three fields. */
    private static final State ONE_WORD_LEFT = () -> {
        ColouredHeap x = new ColouredHeap(4);
        for (int i = 0; i < 31; i++) {
            x.make(0, 3, i);
        }
        x.make(1, 2, 31);
        return x;
    };

    private static final State[] FULL_ONES = {
        () -> Heaps.full(true),
        () -> after(Heaps.full(true), 20),
        () -> after(Heaps.full(true), 32),
    };

    public static void main(String[] args) {
        Sentences s = new Sentences();
        make(s);
        load(s);
        store(s);
        copyAndDrop(s);
        askAndSet(s);
        colourAndBehind(s);
        collectAndPage(s);
        s.test("Promises 7, 9 .. 12, 14 .. 19: a call that asks changes nothing",
                RefusalTest::askingChangesNothing);
        s.end();
    }

    private static ColouredHeap after(ColouredHeap x, int steps) {
        x.collect(steps);
        return x;
    }

    private static void always(Sentences s, String sentence, int due, int[] wrong, Call call) {
        s.test(sentence + " (refused, changes nothing)", t -> refuse(t, due, wrong, call, STATES));
    }

    private static void withObjects(Sentences s, String sentence, int due, int[] wrong, Call call) {
        s.test(sentence + " (refused, changes nothing)", t -> refuse(t, due, wrong, call, WITH_OBJECTS));
    }

    private static void refuse(Sentences s, int due, int[] wrong, Call call, State... states) {
        for (int i = 0; i < states.length; i++) {
            for (int number : wrong) {
                String where = "state " + i + ", " + number;
                ColouredHeap x = states[i].reach();
                s.due(where, call.on(x, number), due);
                s.due(where + ", what is seen", Heaps.seen(x), Heaps.seen(states[i].reach()));
                // A heap that has not been asked, as asking may be the very call that is refused.
                x = states[i].reach();
                call.on(x, number);
                s.due(where + ", how it goes on", goOn(x), goOn(states[i].reach()));
            }
        }
    }

    /** What further calls answer: they tell what nothing else shows, as the colour of a root. */
    private static String goOn(ColouredHeap x) {
        StringBuilder answers = new StringBuilder();
        answers.append(x.store(0, 0, 0)).append(' ').append(x.load(1, 0, 0));
        answers.append(' ').append(x.make(2, 1, 9));
        for (int i = 0; i < 12; i++) {
            answers.append(' ').append(x.collect(1)).append(' ').append(x.stack());
            answers.append(' ').append(x.healed()).append(' ').append(x.moved());
        }
        return answers.append(Heaps.seen(x)).toString();
    }

    private static void make(Sentences s) {
        always(s, "Promise 2: BAD when root is no root", BAD, NO_ROOTS,
                (x, root) -> x.make(root, 1, 7));
        always(s, "Promise 2: BAD when n is not 0 .. 3", BAD, new int[] {-1, 4, LEAST, GREATEST},
                (x, n) -> x.make(0, n, 7));
        s.test("Promise 2: FULL (refused, changes nothing)",
                t -> refuse(t, FULL, new int[] {0, 1, 2, 3}, (x, n) -> x.make(0, n, 7), FULL_ONES));
        s.test("Promise 2: FULL, there being room for a smaller one (refused, changes nothing)",
                t -> refuse(t, FULL, new int[] {1, 2, 3}, (x, n) -> x.make(0, n, 7), ONE_WORD_LEFT));
    }

    private static void load(Sentences s) {
        always(s, "Promise 3: BAD when to is no root", BAD, NO_ROOTS,
                (x, root) -> x.load(root, 0, 0));
        always(s, "Promise 3: BAD when from is no root", BAD, NO_ROOTS,
                (x, root) -> x.load(0, root, 0));
        always(s, "Promise 3: EMPTY", EMPTY, EMPTY_ROOTS,
                (x, root) -> x.load(0, root, 0));
        withObjects(s, "Promise 3: BAD when f is no field", BAD, NO_FIELDS,
                (x, f) -> x.load(0, 0, f));
    }

    private static void store(Sentences s) {
        always(s, "Promise 4: BAD when from is no root", BAD, NO_ROOTS,
                (x, root) -> x.store(root, 0, 0));
        always(s, "Promise 4: BAD when root is no root", BAD, NO_ROOTS,
                (x, root) -> x.store(0, 0, root));
        always(s, "Promise 4: EMPTY (of from)", EMPTY, EMPTY_ROOTS,
                (x, root) -> x.store(root, 0, 0));
        withObjects(s, "Promise 4: BAD when f is no field", BAD, NO_FIELDS,
                (x, f) -> x.store(0, f, 0));
    }

    private static void copyAndDrop(Sentences s) {
        always(s, "Promise 5: false when to is no root", FALSE, NO_ROOTS,
                (x, root) -> x.copy(root, 0) ? 1 : 0);
        always(s, "Promise 5: false when from is no root", FALSE, NO_ROOTS,
                (x, root) -> x.copy(0, root) ? 1 : 0);
        always(s, "Promise 6: false when root is no root", FALSE, NO_ROOTS,
                (x, root) -> x.drop(root) ? 1 : 0);
        always(s, "Promise 6: false when it holds nothing already", FALSE, EMPTY_ROOTS,
                (x, root) -> x.drop(root) ? 1 : 0);
    }

    private static void askAndSet(Sentences s) {
        always(s, "Promise 7: 0 when root is no root", 0, NO_ROOTS,
                (x, root) -> x.value(root));
        always(s, "Promise 7: 0 when root holds nothing", 0, EMPTY_ROOTS,
                (x, root) -> x.value(root));
        always(s, "Promise 8: false when root is no root", FALSE, NO_ROOTS,
                (x, root) -> x.set(root, 7) ? 1 : 0);
        always(s, "Promise 8: false when root holds nothing", FALSE, EMPTY_ROOTS,
                (x, root) -> x.set(root, 7) ? 1 : 0);
        always(s, "Promise 9: BAD when root is no root", BAD, NO_ROOTS,
                (x, root) -> x.fields(root));
        always(s, "Promise 9: EMPTY", EMPTY, EMPTY_ROOTS,
                (x, root) -> x.fields(root));
        always(s, "Promise 10: BAD when root is no root", BAD, NO_ROOTS,
                (x, root) -> x.place(root));
        always(s, "Promise 10: EMPTY", EMPTY, EMPTY_ROOTS,
                (x, root) -> x.place(root));
    }

    private static void colourAndBehind(Sentences s) {
        always(s, "Promise 11: BAD when root is no root", BAD, NO_ROOTS,
                (x, root) -> x.colour(root, 0));
        always(s, "Promise 11: EMPTY", EMPTY, EMPTY_ROOTS,
                (x, root) -> x.colour(root, 0));
        withObjects(s, "Promise 11: BAD when f is no field", BAD, NO_FIELDS,
                (x, f) -> x.colour(0, f));
        always(s, "Promise 12: BAD when root is no root", BAD, NO_ROOTS,
                (x, root) -> x.behind(root, 0));
        always(s, "Promise 12: EMPTY", EMPTY, EMPTY_ROOTS,
                (x, root) -> x.behind(root, 0));
        withObjects(s, "Promise 12: BAD when f is no field", BAD, NO_FIELDS,
                (x, f) -> x.behind(0, f));
        s.test("Promise 12: BAD also when it holds nothing (refused, changes nothing)",
                t -> refuse(t, BAD, new int[] {1, 2}, (x, f) -> x.behind(0, f), FULL_ONES));
    }

    private static void collectAndPage(Sentences s) {
        always(s, "Promise 13: BAD when n is not 0 .. 100", BAD, new int[] {-1, 101, LEAST, GREATEST},
                (x, n) -> x.collect(n));
        always(s, "Promise 16: BAD when page is not 0 .. 7", BAD, new int[] {-1, 8, LEAST, GREATEST},
                (x, page) -> x.page(page, 0));
        always(s, "Promise 16: BAD when what is not 0 .. 4", BAD, new int[] {-1, 5, LEAST, GREATEST},
                (x, what) -> x.page(0, what));
    }

    private static void askingChangesNothing(Sentences s) {
        for (State state : WITH_OBJECTS) {
            ColouredHeap x = state.reach();
            ColouredHeap twin = state.reach();
            s.due("asked twice", Heaps.seen(x), Heaps.seen(x));
            s.due("how it goes on", goOn(x), goOn(twin));
        }
    }
}
