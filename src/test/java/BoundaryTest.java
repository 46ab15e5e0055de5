/** A test for each boundary case that a sentence of the promises 1 to 19 names. */
public final class BoundaryTest {
    private static final int BAD = ColouredHeap.BAD;
    private static final int EMPTY = ColouredHeap.EMPTY;
    private static final int FULL = ColouredHeap.FULL;
    private static final int LEAST = Heaps.LEAST;
    private static final int GREATEST = Heaps.GREATEST;
    private static final int[] NO_ROOTS = Heaps.NO_ROOTS;

    /** Values that a caller could mistake for something else, and the bounds of int. */
    private static final int[] VALUES = {0, 1, -1, BAD, EMPTY, FULL, LEAST, GREATEST};

    public static void main(String[] args) {
        Sentences s = new Sentences();
        constantsAndConstructor(s);
        make(s);
        load(s);
        store(s);
        copyAndDrop(s);
        valueAndSet(s);
        fieldsAndPlace(s);
        colourAndBehind(s);
        collect(s);
        page(s);
        counts(s);
        s.end();
    }

    private static void constantsAndConstructor(Sentences s) {
        s.test("Promise 1, The constants: BAD = -1, EMPTY = -2, FULL = -3",
                BoundaryTest::constants);
        s.test("Promise 1: All pages are free",
                BoundaryTest::newPages);
        s.test("Promise 1: all roots hold nothing",
                BoundaryTest::newRoots);
        s.test("Promise 1: no cycle has begun, the phase is IDLE",
                BoundaryTest::newPhase);
        s.test("Promise 1: The threshold is that number, 1 .. 16",
                BoundaryTest::thresholdInBounds);
        s.test("Promise 1: The threshold is 1 if it is less",
                BoundaryTest::thresholdTooSmall);
        s.test("Promise 1: The threshold is 16 if it is more",
                BoundaryTest::thresholdTooLarge);
        s.test("What it is: An object is used for at most 512 calls (the 512th answers as due)",
                BoundaryTest::lastCall);
    }

    private static void make(Sentences s) {
        s.test("Promise 2: A root (the least, the greatest) becomes a new object; Answers its place",
                BoundaryTest::makeRoots);
        s.test("Promise 2: A root that holds an object already becomes a new one",
                BoundaryTest::makeAgain);
        s.test("Promise 2: of n fields (0 .. 3)",
                BoundaryTest::makeFields);
        s.test("Promise 2: which hold nothing (in words that were other objects' fields)",
                BoundaryTest::makeFieldsHoldNothing);
        s.test("Promise 2: with that value (the least and the greatest int, too)",
                BoundaryTest::makeValue);
        s.test("Promise 2: the reference has the good colour (and the object is not marked)",
                BoundaryTest::makeColour);
        s.test("Promise 2: BAD when root is no root",
                BoundaryTest::makeNoRoot);
        s.test("Promise 2: BAD when n is not 0 .. 3",
                BoundaryTest::makeWrongFields);
        s.test("Promise 2: FULL",
                BoundaryTest::makeFull);
        s.test("Promise 2: BAD when root is no root, before FULL",
                BoundaryTest::makeNoRootBeforeFull);
        s.test("Promise 2: BAD when n is not 0 .. 3, before FULL",
                BoundaryTest::makeWrongFieldsBeforeFull);
        s.test("Promise 2: BAD when root is no root and n is not 0 .. 3, both at once",
                BoundaryTest::makeTwiceWrong);
    }

    private static void load(Sentences s) {
        s.test("Promise 3: Root to becomes what field f (from 0) holds; Answers 1",
                BoundaryTest::loadReference);
        s.test("Promise 3: Answers 0 if it is nothing (root to holds nothing then)",
                BoundaryTest::loadNothing);
        s.test("Promise 3: to and from are one root",
                BoundaryTest::loadToItself);
        s.test("Promise 3: after the field was healed (the field itself, too)",
                BoundaryTest::loadHealsField);
        s.test("Promise 3: BAD when to is no root",
                BoundaryTest::loadToNoRoot);
        s.test("Promise 3: BAD when from is no root",
                BoundaryTest::loadFromNoRoot);
        s.test("Promise 3: EMPTY",
                BoundaryTest::loadEmpty);
        s.test("Promise 3: BAD when f is no field",
                BoundaryTest::loadNoField);
        s.test("Promise 3: BAD when to is no root, before EMPTY",
                BoundaryTest::loadToNoRootBeforeEmpty);
        s.test("Promise 3: EMPTY, before BAD when f is no field",
                BoundaryTest::loadEmptyBeforeNoField);
        s.test("Promise 3: BAD when to or from is no root, f being no field, too",
                BoundaryTest::loadTwiceWrong);
        s.test("Promise 3: a refused call heals nothing",
                BoundaryTest::loadRefusedHealsNothing);
    }

    private static void store(Sentences s) {
        s.test("Promise 4: Field f becomes what root holds; Answers 0",
                BoundaryTest::storeReference);
        s.test("Promise 4: (perhaps nothing)",
                BoundaryTest::storeNothing);
        s.test("Promise 4: from and root are one root",
                BoundaryTest::storeItself);
        s.test("Promise 4: the field becomes that (what it held before is not healed)",
                BoundaryTest::storeHealsNothing);
        s.test("Promise 4: BAD when from is no root",
                BoundaryTest::storeFromNoRoot);
        s.test("Promise 4: BAD when root is no root",
                BoundaryTest::storeNoRoot);
        s.test("Promise 4: EMPTY (of from)",
                BoundaryTest::storeEmpty);
        s.test("Promise 4: BAD when f is no field",
                BoundaryTest::storeNoField);
        s.test("Promise 4: BAD when root is no root, before EMPTY",
                BoundaryTest::storeNoRootBeforeEmpty);
        s.test("Promise 4: EMPTY, before BAD when f is no field",
                BoundaryTest::storeEmptyBeforeNoField);
        s.test("Promise 4: BAD when from or root is no root, f being no field, too",
                BoundaryTest::storeTwiceWrong);
    }

    private static void copyAndDrop(Sentences s) {
        s.test("Promise 5: Root to becomes what root from holds: true",
                BoundaryTest::copyReference);
        s.test("Promise 5: root from holds nothing: true, and root to holds nothing",
                BoundaryTest::copyNothing);
        s.test("Promise 5: to and from are one root",
                BoundaryTest::copyItself);
        s.test("Promise 5: false when to is no root",
                BoundaryTest::copyToNoRoot);
        s.test("Promise 5: false when from is no root",
                BoundaryTest::copyFromNoRoot);
        s.test("Promise 6: A root holds nothing from now on: true",
                BoundaryTest::dropReference);
        s.test("Promise 6: false when root is no root",
                BoundaryTest::dropNoRoot);
        s.test("Promise 6: false when it holds nothing already",
                BoundaryTest::dropNothing);
    }

    private static void valueAndSet(Sentences s) {
        s.test("Promise 7: The value of the object of a root (the least and the greatest int, too)",
                BoundaryTest::valueOfObject);
        s.test("Promise 7: 0 when root is no root",
                BoundaryTest::valueNoRoot);
        s.test("Promise 7: 0 when root holds nothing",
                BoundaryTest::valueOfNothing);
        s.test("Promise 8: The object of a root gets a value: true (each reference to it sees that)",
                BoundaryTest::setObject);
        s.test("Promise 8: false when root is no root",
                BoundaryTest::setNoRoot);
        s.test("Promise 8: false when root holds nothing",
                BoundaryTest::setNothing);
    }

    private static void fieldsAndPlace(Sentences s) {
        s.test("Promise 9: How many fields the object of a root has (0 .. 3)",
                BoundaryTest::fieldsOfObject);
        s.test("Promise 9: BAD when root is no root",
                BoundaryTest::fieldsNoRoot);
        s.test("Promise 9: EMPTY",
                BoundaryTest::fieldsEmpty);
        s.test("Promise 10: The place of the reference that a root holds (0 .. 127)",
                BoundaryTest::placeOfRoot);
        s.test("Promise 10: BAD when root is no root",
                BoundaryTest::placeNoRoot);
        s.test("Promise 10: EMPTY",
                BoundaryTest::placeEmpty);
    }

    private static void colourAndBehind(Sentences s) {
        s.test("Promise 11: The colour of the reference that a field holds, as it is (nothing is healed)",
                BoundaryTest::colourAsItIs);
        s.test("Promise 11: 0 when it holds nothing",
                BoundaryTest::colourOfNothing);
        s.test("Promise 11: BAD when root is no root",
                BoundaryTest::colourNoRoot);
        s.test("Promise 11: EMPTY",
                BoundaryTest::colourEmpty);
        s.test("Promise 11: BAD when f is no field",
                BoundaryTest::colourNoField);
        s.test("Promise 11: EMPTY, before BAD when f is no field",
                BoundaryTest::colourEmptyBeforeNoField);
        s.test("Promise 12: The place of the reference that a field holds, likewise (nothing is healed)",
                BoundaryTest::behindAsItIs);
        s.test("Promise 12: BAD also when it holds nothing",
                BoundaryTest::behindNothing);
        s.test("Promise 12: likewise; BAD when root is no root",
                BoundaryTest::behindNoRoot);
        s.test("Promise 12: likewise; EMPTY",
                BoundaryTest::behindEmpty);
        s.test("Promise 12: likewise; BAD when f is no field",
                BoundaryTest::behindNoField);
        s.test("Promise 12: likewise; EMPTY, before BAD when f is no field",
                BoundaryTest::behindEmptyBeforeNoField);
    }

    private static void collect(Sentences s) {
        s.test("Promise 13: n steps of the collector (1 and 2 and 99)",
                BoundaryTest::collectSteps);
        s.test("Promise 13: n is 0: no step; answers the phase",
                BoundaryTest::collectNone);
        s.test("Promise 13: n is 100",
                BoundaryTest::collectMost);
        s.test("Promise 13: BAD when n is less than 0",
                BoundaryTest::collectTooFew);
        s.test("Promise 13: BAD when n is more than 100",
                BoundaryTest::collectTooMany);
    }

    private static void page(Sentences s) {
        s.test("Promise 16: what = 0: 0 free, 1 in use, 2 the allocating one, 4 in the relocation set",
                BoundaryTest::pageState);
        s.test("Promise 16: what = 1: how many words are used",
                BoundaryTest::pageUsed);
        s.test("Promise 16: what = 2: how many marked objects are in it",
                BoundaryTest::pageMarked);
        s.test("Promise 16: what = 3: whether it is a candidate (1 or 0)",
                BoundaryTest::pageCandidate);
        s.test("Promise 16: what = 4: how many forwardings there are for its places",
                BoundaryTest::pageForwardings);
        s.test("Promise 16: of a page that became free (each value of what)",
                BoundaryTest::pageThatBecameFree);
        s.test("Promise 16: of the least and the greatest page",
                BoundaryTest::pageLeastAndGreatest);
        s.test("Promise 16: BAD when page is less than 0",
                BoundaryTest::pageTooSmall);
        s.test("Promise 16: BAD when page is more than 7",
                BoundaryTest::pageTooLarge);
        s.test("Promise 16: BAD when what is less than 0",
                BoundaryTest::whatTooSmall);
        s.test("Promise 16: BAD when what is more than 4",
                BoundaryTest::whatTooLarge);
    }

    private static void counts(Sentences s) {
        s.test("Promise 14: The phase: on a new object",
                BoundaryTest::newPhase);
        s.test("Promise 14: The phase: after calls that change it",
                BoundaryTest::phaseChanges);
        s.test("Promise 14: The phase: after refused calls",
                BoundaryTest::phaseAfterRefusals);
        s.test("Promise 15: How many objects are on the stack: on a new object",
                t -> t.due("stack()", new ColouredHeap(4).stack(), 0));
        s.test("Promise 15: How many objects are on the stack: after calls that change it",
                BoundaryTest::stackChanges);
        s.test("Promise 15: How many objects are on the stack: all of a full heap",
                BoundaryTest::stackOfWholeHeap);
        s.test("Promise 15: How many objects are on the stack: after refused calls",
                BoundaryTest::stackAfterRefusals);
        s.test("Promise 17: How often a field or root was healed: on a new object",
                t -> t.due("healed()", new ColouredHeap(4).healed(), 0));
        s.test("Promise 17: How often a field or root was healed: after calls that change it",
                BoundaryTest::healedChanges);
        s.test("Promise 17: How often a field or root was healed: after refused calls",
                BoundaryTest::healedAfterRefusals);
        s.test("Promise 18: How many objects were moved: on a new object",
                t -> t.due("moved()", new ColouredHeap(4).moved(), 0));
        s.test("Promise 18: How many objects were moved: after calls that change it",
                BoundaryTest::movedChanges);
        s.test("Promise 18: How many objects were moved: after refused calls",
                BoundaryTest::movedAfterRefusals);
        s.test("Promise 19: How many cycles began: on a new object",
                t -> t.due("cycles()", new ColouredHeap(4).cycles(), 0));
        s.test("Promise 19: How many cycles began: after calls that change it",
                BoundaryTest::cyclesChanges);
        s.test("Promise 19: How many cycles began: after refused calls",
                BoundaryTest::cyclesAfterRefusals);
    }

    // Promise 1

    private static void constants(Sentences s) {
        s.due("BAD", ColouredHeap.BAD, -1);
        s.due("EMPTY", ColouredHeap.EMPTY, -2);
        s.due("FULL", ColouredHeap.FULL, -3);
    }

    private static void newPages(Sentences s) {
        ColouredHeap x = new ColouredHeap(4);
        for (int page = 0; page < 8; page++) {
            for (int what = 0; what <= 4; what++) {
                s.due("page(" + page + ", " + what + ")", x.page(page, what), 0);
            }
        }
    }

    private static void newRoots(Sentences s) {
        ColouredHeap x = new ColouredHeap(4);
        for (int root = 0; root < 6; root++) {
            s.due("place(" + root + ")", x.place(root), EMPTY);
        }
    }

    private static void newPhase(Sentences s) {
        ColouredHeap x = new ColouredHeap(4);
        s.due("phase()", x.phase(), 0);
        s.due("collect(0)", x.collect(0), 0);
        s.due("cycles()", x.cycles(), 0);
    }

    /** Whether a page with so many live words (1 .. 16) comes into the relocation set. */
    private static boolean relocated(int threshold, int live) {
        ColouredHeap x = new ColouredHeap(threshold);
        int root = 0;
        for (int left = live; left > 0; left -= 4) {
            x.make(root, Math.min(4, left) - 1, 0);
            root++;
        }
        Heaps.stepTo(x, 2);
        return x.page(0, 0) == 4;
    }

    private static void thresholdInBounds(Sentences s) {
        for (int threshold = 1; threshold <= 16; threshold++) {
            for (int live = 1; live <= 16; live++) {
                s.due("threshold " + threshold + ", LIVE " + live, relocated(threshold, live), live <= threshold);
            }
        }
    }

    private static void thresholdTooSmall(Sentences s) {
        for (int threshold : new int[] {0, -1, -16, LEAST}) {
            s.due("threshold " + threshold + ", LIVE 1", relocated(threshold, 1), true);
            s.due("threshold " + threshold + ", LIVE 2", relocated(threshold, 2), false);
        }
    }

    private static void thresholdTooLarge(Sentences s) {
        for (int threshold : new int[] {17, 32, GREATEST}) {
            s.due("threshold " + threshold + ", LIVE 1", relocated(threshold, 1), true);
            s.due("threshold " + threshold + ", LIVE 16", relocated(threshold, 16), true);
        }
    }

    private static void lastCall(Sentences s) {
        // A cycle of an empty heap has 3 steps, and 511 * 100 is one more than 3 * 17033.
        ColouredHeap x = new ColouredHeap(4);
        for (int i = 0; i < 510; i++) {
            x.collect(100);
        }
        s.due("collect(100), the 511th call", x.collect(100), 1);
        s.due("cycles(), the 512th call", x.cycles(), 17034);

        // A cycle of one object that is moved to and fro has 5 steps, and each heals its root twice.
        x = new ColouredHeap(16);
        x.make(0, 3, 77);
        for (int i = 0; i < 508; i++) {
            x.collect(100);
        }
        s.due("healed(), the 510th call", x.healed(), 2 * 508 * 20);
        s.due("moved(), the 511th call", x.moved(), 508 * 20);
        s.due("value(0), the 512th call", x.value(0), 77);
    }

    // Promise 2

    private static void makeRoots(Sentences s) {
        ColouredHeap x = new ColouredHeap(4);
        for (int root = 0; root < 6; root++) {
            s.due("make(" + root + ", 1, 0)", x.make(root, 1, 0), 2 * root);
            s.due("place(" + root + ")", x.place(root), 2 * root);
        }
    }

    private static void makeAgain(Sentences s) {
        ColouredHeap x = new ColouredHeap(4);
        x.make(0, 1, 101);
        x.copy(1, 0);
        s.due("make(0, 2, 102)", x.make(0, 2, 102), 2);
        s.due("place(0)", x.place(0), 2);
        s.due("value(0)", x.value(0), 102);
        s.due("fields(0)", x.fields(0), 2);
        s.due("place(1), the first one", x.place(1), 0);
        s.due("value(1), the first one", x.value(1), 101);
    }

    private static void makeFields(Sentences s) {
        for (int n = 0; n <= 3; n++) {
            ColouredHeap x = new ColouredHeap(4);
            s.due("make(0, " + n + ", 0)", x.make(0, n, 0), 0);
            s.due("fields(0)", x.fields(0), n);
        }
    }

    private static void makeFieldsHoldNothing(Sentences s) {
        ColouredHeap x = new ColouredHeap(4);
        x.make(0, 3, 0);
        for (int f = 0; f < 3; f++) {
            s.due("colour(0, " + f + ")", x.colour(0, f), 0);
            s.due("behind(0, " + f + ")", x.behind(0, f), BAD);
            x.store(0, f, 0);
        }
        x.drop(0);
        s.due("collect(2), frees the page", x.collect(2), 2);
        s.due("make(0, 3, 0), in the same words", x.make(0, 3, 0), 0);
        for (int f = 0; f < 3; f++) {
            s.due("colour(0, " + f + "), again", x.colour(0, f), 0);
            s.due("behind(0, " + f + "), again", x.behind(0, f), BAD);
            s.due("load(1, 0, " + f + "), again", x.load(1, 0, f), 0);
        }
    }

    private static void makeValue(Sentences s) {
        ColouredHeap x = new ColouredHeap(4);
        for (int value : VALUES) {
            x.make(0, 0, value);
            s.due("value(0)", x.value(0), value);
        }
    }

    private static void makeColour(Sentences s) {
        ColouredHeap x = new ColouredHeap(4);
        s.due("idle, colour", Heaps.colourOfNew(x, 0), 3);
        Heaps.stepTo(x, 1);
        s.due("stack()", x.stack(), 1);
        s.due("marking, colour", Heaps.colourOfNew(x, 1), 1);
        s.due("stack(), no more", x.stack(), 1);
        s.due("page(1, 2)", x.page(1, 2), 0);
        s.due("healed(), root 0 alone", x.healed(), 1);
        Heaps.stepTo(x, 2);
        s.due("relocating, colour", Heaps.colourOfNew(x, 2), 3);
    }

    private static void makeNoRoot(Sentences s) {
        ColouredHeap x = new ColouredHeap(4);
        for (int root : NO_ROOTS) {
            s.due("make(" + root + ", 0, 1)", x.make(root, 0, 1), BAD);
        }
        s.due("page(0, 0)", x.page(0, 0), 0);
    }

    private static void makeWrongFields(Sentences s) {
        ColouredHeap x = new ColouredHeap(4);
        for (int n : new int[] {-1, 4, LEAST, GREATEST}) {
            s.due("make(0, " + n + ", 1)", x.make(0, n, 1), BAD);
            s.due("make(5, " + n + ", 1)", x.make(5, n, 1), BAD);
        }
        s.due("page(0, 0)", x.page(0, 0), 0);
        s.due("place(0)", x.place(0), EMPTY);
    }

    private static void makeFull(Sentences s) {
        ColouredHeap x = Heaps.full(true);
        for (int n = 0; n <= 3; n++) {
            s.due("make(5, " + n + ", 1)", x.make(5, n, 1), FULL);
        }
        s.due("place(5), as before", x.place(5), EMPTY);
        s.due("make(0, 0, 1), of a root that holds an object", x.make(0, 0, 1), FULL);
        s.due("place(0), as before", x.place(0), 0);
        s.due("value(0), as before", x.value(0), 101);
    }

    private static void makeNoRootBeforeFull(Sentences s) {
        ColouredHeap x = Heaps.full(true);
        for (int root : NO_ROOTS) {
            s.due("make(" + root + ", 0, 1)", x.make(root, 0, 1), BAD);
        }
    }

    private static void makeWrongFieldsBeforeFull(Sentences s) {
        ColouredHeap x = Heaps.full(true);
        for (int n : new int[] {-1, 4, LEAST, GREATEST}) {
            s.due("make(0, " + n + ", 1)", x.make(0, n, 1), BAD);
        }
    }

    private static void makeTwiceWrong(Sentences s) {
        for (ColouredHeap x : new ColouredHeap[] {new ColouredHeap(4), Heaps.full(true)}) {
            s.due("make(6, 4, 1)", x.make(6, 4, 1), BAD);
            s.due("make(-1, -1, 1)", x.make(-1, -1, 1), BAD);
            s.due("make(least, greatest, 1)", x.make(LEAST, GREATEST, 1), BAD);
        }
    }

    /** Root 0: an object of 3 fields at 0; root 1: one of no field at 4; field 2 holds that one. */
    private static ColouredHeap lastFieldOfThree() {
        ColouredHeap x = new ColouredHeap(4);
        x.make(0, 3, 101);
        x.make(1, 0, 102);
        x.store(0, 2, 1);
        return x;
    }

    // Promise 3

    private static void loadReference(Sentences s) {
        ColouredHeap x = new ColouredHeap(4);
        x.make(0, 3, 101);
        for (int f = 0; f < 3; f++) {
            x.make(1, 0, 0);
            x.store(0, f, 1);
        }
        for (int f = 0; f < 3; f++) {
            s.due("load(5, 0, " + f + ")", x.load(5, 0, f), 1);
            s.due("place(5)", x.place(5), 4 + f);
            s.due("behind(0, " + f + "), as before", x.behind(0, f), 4 + f);
        }
    }

    private static void loadNothing(Sentences s) {
        ColouredHeap x = lastFieldOfThree();
        s.due("load(1, 0, 0)", x.load(1, 0, 0), 0);
        s.due("place(1), it held an object", x.place(1), EMPTY);
        s.due("load(5, 0, 1)", x.load(5, 0, 1), 0);
        s.due("place(5), it held nothing", x.place(5), EMPTY);
    }

    private static void loadToItself(Sentences s) {
        ColouredHeap x = lastFieldOfThree();
        s.due("load(0, 0, 2)", x.load(0, 0, 2), 1);
        s.due("place(0)", x.place(0), 4);
        x = lastFieldOfThree();
        s.due("load(0, 0, 0)", x.load(0, 0, 0), 0);
        s.due("place(0)", x.place(0), EMPTY);
    }

    private static void loadHealsField(Sentences s) {
        ColouredHeap x = Heaps.chain(16);
        x.collect(5);
        s.due("colour(0, 0)", x.colour(0, 0), 1);
        s.due("behind(0, 0)", x.behind(0, 0), 2);
        s.due("load(1, 0, 0)", x.load(1, 0, 0), 1);
        s.due("colour(0, 0), healed", x.colour(0, 0), 3);
        s.due("behind(0, 0), healed", x.behind(0, 0), 18);
        s.due("place(1)", x.place(1), 18);
        x.store(1, 0, 1);
        s.due("colour(1, 0), root 1's", x.colour(1, 0), 3);
    }

    private static void loadToNoRoot(Sentences s) {
        ColouredHeap x = lastFieldOfThree();
        for (int root : NO_ROOTS) {
            s.due("load(" + root + ", 0, 2)", x.load(root, 0, 2), BAD);
        }
    }

    private static void loadFromNoRoot(Sentences s) {
        ColouredHeap x = lastFieldOfThree();
        for (int root : NO_ROOTS) {
            s.due("load(1, " + root + ", 0)", x.load(1, root, 0), BAD);
        }
        s.due("place(1), as before", x.place(1), 4);
    }

    private static void loadEmpty(Sentences s) {
        ColouredHeap x = lastFieldOfThree();
        s.due("load(1, 5, 0)", x.load(1, 5, 0), EMPTY);
        s.due("place(1), as before", x.place(1), 4);
        x.drop(0);
        s.due("load(1, 0, 2), dropped", x.load(1, 0, 2), EMPTY);
    }

    private static void loadNoField(Sentences s) {
        ColouredHeap x = lastFieldOfThree();
        for (int f : new int[] {-1, 3, LEAST, GREATEST}) {
            s.due("load(1, 0, " + f + "), of three", x.load(1, 0, f), BAD);
        }
        s.due("load(0, 1, 0), of none", x.load(0, 1, 0), BAD);
        s.due("place(0), as before", x.place(0), 0);
        s.due("place(1), as before", x.place(1), 4);
        x = Heaps.oldFieldsAround();
        s.due("load(3, 0, 0), of none", x.load(3, 0, 0), BAD);
        s.due("load(3, 1, -1), of one", x.load(3, 1, -1), BAD);
        s.due("load(3, 1, 0), of one", x.load(3, 1, 0), 0);
        s.due("load(3, 1, 1), of one", x.load(3, 1, 1), BAD);
    }

    private static void loadToNoRootBeforeEmpty(Sentences s) {
        ColouredHeap x = lastFieldOfThree();
        for (int root : NO_ROOTS) {
            s.due("load(" + root + ", 5, 0)", x.load(root, 5, 0), BAD);
        }
    }

    private static void loadEmptyBeforeNoField(Sentences s) {
        ColouredHeap x = lastFieldOfThree();
        for (int f : new int[] {-1, 3, LEAST, GREATEST}) {
            s.due("load(1, 5, " + f + ")", x.load(1, 5, f), EMPTY);
        }
    }

    private static void loadTwiceWrong(Sentences s) {
        ColouredHeap x = lastFieldOfThree();
        for (int root : NO_ROOTS) {
            s.due("load(" + root + ", " + root + ", 0)", x.load(root, root, 0), BAD);
            s.due("load(" + root + ", 0, 3)", x.load(root, 0, 3), BAD);
            s.due("load(0, " + root + ", 3)", x.load(0, root, 3), BAD);
            s.due("load(" + root + ", 5, 3), from holds nothing, too", x.load(root, 5, 3), BAD);
            s.due("load(5, " + root + ", " + root + ")", x.load(5, root, root), BAD);
        }
    }

    private static void loadRefusedHealsNothing(Sentences s) {
        ColouredHeap x = Heaps.chain(16);
        x.collect(5);
        int healed = x.healed();
        for (int root : NO_ROOTS) {
            s.due("load(" + root + ", 0, 0)", x.load(root, 0, 0), BAD);
        }
        s.due("colour(0, 0)", x.colour(0, 0), 1);
        s.due("behind(0, 0)", x.behind(0, 0), 2);
        s.due("healed()", x.healed(), healed);
        s.due("moved()", x.moved(), 1);
    }

    // Promise 4

    private static void storeReference(Sentences s) {
        ColouredHeap x = lastFieldOfThree();
        for (int f = 0; f < 3; f++) {
            x.make(5, 0, 0);
            s.due("store(0, " + f + ", 5)", x.store(0, f, 5), 0);
        }
        for (int f = 0; f < 3; f++) {
            s.due("behind(0, " + f + ")", x.behind(0, f), 5 + f);
            s.due("colour(0, " + f + ")", x.colour(0, f), 3);
        }
        s.due("place(5), as before", x.place(5), 7);
    }

    private static void storeNothing(Sentences s) {
        ColouredHeap x = lastFieldOfThree();
        s.due("store(0, 2, 5), it held an object", x.store(0, 2, 5), 0);
        s.due("colour(0, 2)", x.colour(0, 2), 0);
        s.due("behind(0, 2)", x.behind(0, 2), BAD);
        s.due("store(0, 0, 5), it held nothing", x.store(0, 0, 5), 0);
        s.due("colour(0, 0)", x.colour(0, 0), 0);
    }

    private static void storeItself(Sentences s) {
        ColouredHeap x = lastFieldOfThree();
        s.due("store(0, 0, 0)", x.store(0, 0, 0), 0);
        s.due("behind(0, 0)", x.behind(0, 0), 0);
        s.due("place(0), as before", x.place(0), 0);
    }

    private static void storeHealsNothing(Sentences s) {
        ColouredHeap x = Heaps.chain(16);
        x.collect(1);
        s.due("colour(0, 0), a bad one", x.colour(0, 0), 3);
        s.due("store(0, 0, 0)", x.store(0, 0, 0), 0);
        s.due("colour(0, 0), root 0's", x.colour(0, 0), 1);
        s.due("behind(0, 0)", x.behind(0, 0), 0);
        s.due("healed(), root 0 alone", x.healed(), 1);
        s.due("stack(), root 0's object alone", x.stack(), 1);
        s.due("page(0, 2)", x.page(0, 2), 1);
    }

    private static void storeFromNoRoot(Sentences s) {
        ColouredHeap x = lastFieldOfThree();
        for (int root : NO_ROOTS) {
            s.due("store(" + root + ", 0, 1)", x.store(root, 0, 1), BAD);
        }
    }

    private static void storeNoRoot(Sentences s) {
        ColouredHeap x = lastFieldOfThree();
        for (int root : NO_ROOTS) {
            s.due("store(0, 2, " + root + ")", x.store(0, 2, root), BAD);
        }
        s.due("behind(0, 2), as before", x.behind(0, 2), 4);
    }

    private static void storeEmpty(Sentences s) {
        ColouredHeap x = lastFieldOfThree();
        s.due("store(5, 0, 0)", x.store(5, 0, 0), EMPTY);
        s.due("store(5, 0, 4), root holds nothing, too", x.store(5, 0, 4), EMPTY);
        s.due("store(5, 0, 5)", x.store(5, 0, 5), EMPTY);
        s.due("place(5), as before", x.place(5), EMPTY);
    }

    private static void storeNoField(Sentences s) {
        ColouredHeap x = lastFieldOfThree();
        for (int f : new int[] {-1, 3, LEAST, GREATEST}) {
            s.due("store(0, " + f + ", 0), of three", x.store(0, f, 0), BAD);
        }
        s.due("store(1, 0, 0), of none", x.store(1, 0, 0), BAD);
        s.due("store(0, 3, 5), root holds nothing", x.store(0, 3, 5), BAD);
        x.make(2, 1, 0);
        s.due("store(2, 1, 0), of one", x.store(2, 1, 0), BAD);
        s.due("colour(2, 0), as before", x.colour(2, 0), 0);
        s.due("behind(0, 2), as before", x.behind(0, 2), 4);
    }

    private static void storeNoRootBeforeEmpty(Sentences s) {
        ColouredHeap x = lastFieldOfThree();
        for (int root : NO_ROOTS) {
            s.due("store(5, 0, " + root + ")", x.store(5, 0, root), BAD);
        }
    }

    private static void storeEmptyBeforeNoField(Sentences s) {
        ColouredHeap x = lastFieldOfThree();
        for (int f : new int[] {-1, 3, LEAST, GREATEST}) {
            s.due("store(5, " + f + ", 0)", x.store(5, f, 0), EMPTY);
        }
    }

    private static void storeTwiceWrong(Sentences s) {
        ColouredHeap x = lastFieldOfThree();
        for (int root : NO_ROOTS) {
            s.due("store(" + root + ", 0, " + root + ")", x.store(root, 0, root), BAD);
            s.due("store(" + root + ", 3, 0)", x.store(root, 3, 0), BAD);
            s.due("store(0, 3, " + root + ")", x.store(0, 3, root), BAD);
            s.due("store(5, 3, " + root + "), from holds nothing, too", x.store(5, 3, root), BAD);
        }
    }

    // Promise 5

    private static void copyReference(Sentences s) {
        ColouredHeap x = lastFieldOfThree();
        s.due("copy(5, 1), it held nothing", x.copy(5, 1), true);
        s.due("place(5)", x.place(5), 4);
        s.due("copy(0, 5), it held an object", x.copy(0, 5), true);
        s.due("place(0)", x.place(0), 4);
        s.due("place(1), as before", x.place(1), 4);
        x.set(5, 7);
        s.due("value(1), the same object", x.value(1), 7);
    }

    private static void copyNothing(Sentences s) {
        ColouredHeap x = lastFieldOfThree();
        s.due("copy(0, 5), it held an object", x.copy(0, 5), true);
        s.due("place(0)", x.place(0), EMPTY);
        s.due("copy(4, 5), it held nothing", x.copy(4, 5), true);
        s.due("place(4)", x.place(4), EMPTY);
    }

    private static void copyItself(Sentences s) {
        ColouredHeap x = lastFieldOfThree();
        s.due("copy(1, 1)", x.copy(1, 1), true);
        s.due("place(1), as before", x.place(1), 4);
        s.due("copy(5, 5), it holds nothing", x.copy(5, 5), true);
        s.due("place(5), as before", x.place(5), EMPTY);
    }

    private static void copyToNoRoot(Sentences s) {
        ColouredHeap x = lastFieldOfThree();
        for (int root : NO_ROOTS) {
            s.due("copy(" + root + ", 0)", x.copy(root, 0), false);
            s.due("copy(" + root + ", " + root + ")", x.copy(root, root), false);
        }
    }

    private static void copyFromNoRoot(Sentences s) {
        ColouredHeap x = lastFieldOfThree();
        for (int root : NO_ROOTS) {
            s.due("copy(1, " + root + ")", x.copy(1, root), false);
        }
        s.due("place(1), as before", x.place(1), 4);
    }

    // Promise 6

    private static void dropReference(Sentences s) {
        ColouredHeap x = lastFieldOfThree();
        x.copy(5, 1);
        s.due("drop(5)", x.drop(5), true);
        s.due("place(5)", x.place(5), EMPTY);
        s.due("place(1), of the same object", x.place(1), 4);
        s.due("behind(0, 2), of the same object", x.behind(0, 2), 4);
        s.due("drop(0)", x.drop(0), true);
        s.due("place(0)", x.place(0), EMPTY);
    }

    private static void dropNoRoot(Sentences s) {
        ColouredHeap x = lastFieldOfThree();
        for (int root : NO_ROOTS) {
            s.due("drop(" + root + ")", x.drop(root), false);
        }
    }

    private static void dropNothing(Sentences s) {
        ColouredHeap x = lastFieldOfThree();
        s.due("drop(5), never made", x.drop(5), false);
        x.drop(0);
        s.due("drop(0), again", x.drop(0), false);
        x.make(0, 1, 0);
        x.load(1, 0, 0);
        s.due("drop(1), nothing was loaded", x.drop(1), false);
    }

    // Promise 7

    private static void valueOfObject(Sentences s) {
        ColouredHeap x = new ColouredHeap(4);
        for (int value : VALUES) {
            x.make(5, 1, value);
            s.due("value(5)", x.value(5), value);
        }
    }

    private static void valueNoRoot(Sentences s) {
        ColouredHeap x = lastFieldOfThree();
        for (int root : NO_ROOTS) {
            s.due("value(" + root + ")", x.value(root), 0);
        }
    }

    private static void valueOfNothing(Sentences s) {
        ColouredHeap x = lastFieldOfThree();
        s.due("value(5), never made", x.value(5), 0);
        x.drop(0);
        s.due("value(0), dropped", x.value(0), 0);
    }

    // Promise 8

    private static void setObject(Sentences s) {
        ColouredHeap x = lastFieldOfThree();
        for (int value : VALUES) {
            s.due("set(1, " + value + ")", x.set(1, value), true);
            s.due("value(1)", x.value(1), value);
            x.load(5, 0, 2);
            s.due("value(5), by field 2", x.value(5), value);
            s.due("value(0), another object", x.value(0), 101);
        }
    }

    private static void setNoRoot(Sentences s) {
        ColouredHeap x = lastFieldOfThree();
        for (int root : NO_ROOTS) {
            s.due("set(" + root + ", 7)", x.set(root, 7), false);
        }
        s.due("value(0), as before", x.value(0), 101);
        s.due("value(1), as before", x.value(1), 102);
    }

    private static void setNothing(Sentences s) {
        ColouredHeap x = lastFieldOfThree();
        s.due("set(5, 7), never made", x.set(5, 7), false);
        s.due("value(0), as before", x.value(0), 101);
        x.drop(1);
        s.due("set(1, 7), dropped", x.set(1, 7), false);
        x.load(2, 0, 2);
        s.due("value(2), that object", x.value(2), 102);
    }

    // Promise 9

    private static void fieldsOfObject(Sentences s) {
        ColouredHeap x = new ColouredHeap(4);
        for (int n = 0; n <= 3; n++) {
            x.make(5 - n, n, 0);
        }
        for (int n = 0; n <= 3; n++) {
            s.due("fields(" + (5 - n) + ")", x.fields(5 - n), n);
        }
    }

    private static void fieldsNoRoot(Sentences s) {
        ColouredHeap x = lastFieldOfThree();
        for (int root : NO_ROOTS) {
            s.due("fields(" + root + ")", x.fields(root), BAD);
        }
    }

    private static void fieldsEmpty(Sentences s) {
        ColouredHeap x = lastFieldOfThree();
        s.due("fields(5), never made", x.fields(5), EMPTY);
        x.drop(0);
        s.due("fields(0), dropped", x.fields(0), EMPTY);
    }

    // Promise 10

    private static void placeOfRoot(Sentences s) {
        ColouredHeap x = new ColouredHeap(4);
        x.make(0, 0, 0);
        for (int i = 1; i < 127; i++) {
            x.make(1, 0, 0);
        }
        x.make(5, 0, 0);
        s.due("place(0), the first word", x.place(0), 0);
        s.due("place(1)", x.place(1), 126);
        s.due("place(5), the last word", x.place(5), 127);
    }

    private static void placeNoRoot(Sentences s) {
        ColouredHeap x = lastFieldOfThree();
        for (int root : NO_ROOTS) {
            s.due("place(" + root + ")", x.place(root), BAD);
        }
    }

    private static void placeEmpty(Sentences s) {
        ColouredHeap x = lastFieldOfThree();
        s.due("place(5), never made", x.place(5), EMPTY);
        x.drop(0);
        s.due("place(0), dropped", x.place(0), EMPTY);
    }

    // Promise 11

    private static void colourAsItIs(Sentences s) {
        ColouredHeap x = Heaps.chain(16);
        int[] colours = {3, 3, 1, 1, 1, 1, 1, 1, 1, 1, 2};
        for (int steps = 0; steps < colours.length; steps++) {
            int healed = x.healed();
            s.due("colour(0, 0) after " + steps + " steps", x.colour(0, 0), colours[steps]);
            s.due("colour(0, 0), once more", x.colour(0, 0), colours[steps]);
            s.due("healed()", x.healed(), healed);
            x.collect(1);
        }
    }

    private static void colourOfNothing(Sentences s) {
        ColouredHeap x = lastFieldOfThree();
        s.due("colour(0, 0), nothing was stored", x.colour(0, 0), 0);
        s.due("colour(0, 2)", x.colour(0, 2), 3);
        x.store(0, 2, 5);
        s.due("colour(0, 2), nothing was stored again", x.colour(0, 2), 0);
    }

    private static void colourNoRoot(Sentences s) {
        ColouredHeap x = lastFieldOfThree();
        for (int root : NO_ROOTS) {
            s.due("colour(" + root + ", 0)", x.colour(root, 0), BAD);
        }
    }

    private static void colourEmpty(Sentences s) {
        ColouredHeap x = lastFieldOfThree();
        s.due("colour(5, 0), never made", x.colour(5, 0), EMPTY);
        x.drop(0);
        s.due("colour(0, 2), dropped", x.colour(0, 2), EMPTY);
    }

    private static void colourNoField(Sentences s) {
        ColouredHeap x = lastFieldOfThree();
        for (int f : new int[] {-1, 3, LEAST, GREATEST}) {
            s.due("colour(0, " + f + "), of three", x.colour(0, f), BAD);
        }
        s.due("colour(1, 0), of none", x.colour(1, 0), BAD);
        x = Heaps.oldFieldsAround();
        s.due("colour(0, 0), of none", x.colour(0, 0), BAD);
        s.due("colour(1, -1), of one", x.colour(1, -1), BAD);
        s.due("colour(1, 0), of one", x.colour(1, 0), 0);
        s.due("colour(1, 1), of one", x.colour(1, 1), BAD);
    }

    private static void colourEmptyBeforeNoField(Sentences s) {
        ColouredHeap x = lastFieldOfThree();
        for (int f : new int[] {-1, 3, LEAST, GREATEST}) {
            s.due("colour(5, " + f + ")", x.colour(5, f), EMPTY);
        }
    }

    // Promise 12

    private static void behindAsItIs(Sentences s) {
        ColouredHeap x = Heaps.chain(16);
        int[] places = {2, 2, 2, 2, 2, 2, 2, 2, 2, 2, 18};
        for (int steps = 0; steps < places.length; steps++) {
            int healed = x.healed();
            s.due("behind(0, 0) after " + steps + " steps", x.behind(0, 0), places[steps]);
            s.due("behind(0, 0), once more", x.behind(0, 0), places[steps]);
            s.due("healed()", x.healed(), healed);
            x.collect(1);
        }
    }

    private static void behindNothing(Sentences s) {
        ColouredHeap x = lastFieldOfThree();
        s.due("behind(0, 0), nothing was stored", x.behind(0, 0), BAD);
        s.due("behind(0, 2)", x.behind(0, 2), 4);
        x.store(0, 2, 5);
        s.due("behind(0, 2), nothing was stored again", x.behind(0, 2), BAD);
    }

    private static void behindNoRoot(Sentences s) {
        ColouredHeap x = lastFieldOfThree();
        for (int root : NO_ROOTS) {
            s.due("behind(" + root + ", 2)", x.behind(root, 2), BAD);
        }
    }

    private static void behindEmpty(Sentences s) {
        ColouredHeap x = lastFieldOfThree();
        s.due("behind(5, 0), never made", x.behind(5, 0), EMPTY);
        x.drop(0);
        s.due("behind(0, 2), dropped", x.behind(0, 2), EMPTY);
    }

    private static void behindNoField(Sentences s) {
        ColouredHeap x = lastFieldOfThree();
        for (int f : new int[] {-1, 3, LEAST, GREATEST}) {
            s.due("behind(0, " + f + "), of three", x.behind(0, f), BAD);
        }
        s.due("behind(1, 0), of none", x.behind(1, 0), BAD);
        x = Heaps.oldFieldsAround();
        s.due("behind(0, 0), of none", x.behind(0, 0), BAD);
        s.due("behind(1, -1), of one", x.behind(1, -1), BAD);
        s.due("behind(1, 0), of one", x.behind(1, 0), BAD);
        s.due("behind(1, 1), of one", x.behind(1, 1), BAD);
    }

    private static void behindEmptyBeforeNoField(Sentences s) {
        ColouredHeap x = lastFieldOfThree();
        for (int f : new int[] {-1, 3, LEAST, GREATEST}) {
            s.due("behind(5, " + f + ")", x.behind(5, f), EMPTY);
        }
    }

    // Promise 13. A cycle of an empty heap has three steps, with the phases 1, 2, 0.

    private static void collectSteps(Sentences s) {
        ColouredHeap x = new ColouredHeap(4);
        s.due("collect(1)", x.collect(1), 1);
        s.due("collect(1)", x.collect(1), 2);
        s.due("collect(1)", x.collect(1), 0);
        s.due("collect(2)", x.collect(2), 2);
        s.due("collect(2)", x.collect(2), 1);
        s.due("cycles()", x.cycles(), 3);
        s.due("collect(99)", x.collect(99), 1);
        s.due("cycles()", x.cycles(), 36);

        x = Heaps.chain(16);
        s.due("collect(3)", x.collect(3), 1);
        s.due("stack(), c", x.stack(), 1);
    }

    private static void collectNone(Sentences s) {
        ColouredHeap x = Heaps.chain(16);
        for (int steps = 0; steps < 9; steps++) {
            int phase = x.phase();
            int stack = x.stack();
            s.due("collect(0) after " + steps + " steps", x.collect(0), phase);
            s.due("phase()", x.phase(), phase);
            s.due("stack()", x.stack(), stack);
            s.due("cycles()", x.cycles(), steps == 0 ? 0 : 1);
            x.collect(1);
        }
    }

    private static void collectMost(Sentences s) {
        ColouredHeap x = new ColouredHeap(4);
        s.due("collect(100)", x.collect(100), 1);
        s.due("cycles()", x.cycles(), 34);
    }

    private static void collectTooFew(Sentences s) {
        ColouredHeap x = new ColouredHeap(4);
        for (int n : new int[] {-1, -100, LEAST}) {
            s.due("collect(" + n + ")", x.collect(n), BAD);
        }
        s.due("cycles()", x.cycles(), 0);
    }

    private static void collectTooMany(Sentences s) {
        ColouredHeap x = new ColouredHeap(4);
        for (int n : new int[] {101, 1000, GREATEST}) {
            s.due("collect(" + n + ")", x.collect(n), BAD);
        }
        s.due("cycles()", x.cycles(), 0);
    }

    // Promises 14, 15, 17, 18, 19

    private static void phaseChanges(Sentences s) {
        ColouredHeap x = Heaps.chain(16);
        int[] phases = {0, 1, 1, 1, 1, 2, 2, 2, 0, 1};
        for (int steps = 0; steps < phases.length; steps++) {
            s.due("phase() after " + steps + " steps", x.phase(), phases[steps]);
            x.collect(1);
        }
    }

    private static void phaseAfterRefusals(Sentences s) {
        ColouredHeap x = Heaps.chain(16);
        int[] phases = {0, 1, 1, 1, 1, 2, 2, 2, 0, 1};
        for (int steps = 0; steps < phases.length; steps++) {
            Heaps.refuseEachCall(x);
            s.due("phase() after " + steps + " steps", x.phase(), phases[steps]);
            x.collect(1);
        }
    }

    private static void stackChanges(Sentences s) {
        ColouredHeap x = Heaps.chain(16);
        x.collect(1);
        s.due("stack(), a", x.stack(), 1);
        x.load(1, 0, 0);
        s.due("stack(), a and b", x.stack(), 2);
        x.drop(1);
        s.due("stack(), what is dropped stays on it", x.stack(), 2);
        x.collect(1);
        s.due("stack(), a and c", x.stack(), 2);
        x.collect(1);
        s.due("stack(), a", x.stack(), 1);
        x.collect(1);
        s.due("stack()", x.stack(), 0);
    }

    private static void stackOfWholeHeap(Sentences s) {
        // A chain of 64 objects of 2 words; loads put them on the stack before a step takes one off.
        ColouredHeap x = new ColouredHeap(1);
        for (int i = 0; i < 64; i++) {
            x.make(0, 1, 0);
            x.store(0, 0, 1);
            x.copy(1, 0);
        }
        x.drop(0);
        x.collect(1);
        for (int i = 0; i < 63; i++) {
            x.load(1, 1, 0);
        }
        s.due("stack(), all 64", x.stack(), 64);
        s.due("load(1, 1, 0), the end of the chain", x.load(1, 1, 0), 0);
        s.due("stack()", x.stack(), 64);
        s.due("collect(64)", x.collect(64), 1);
        s.due("stack(), all taken off", x.stack(), 0);
    }

    private static void stackAfterRefusals(Sentences s) {
        ColouredHeap x = Heaps.chain(16);
        Heaps.refuseEachCall(x);
        s.due("stack(), idle", x.stack(), 0);
        x.collect(1);
        Heaps.refuseEachCall(x);
        s.due("stack(), marking", x.stack(), 1);
        x.load(1, 0, 0);
        Heaps.refuseEachCall(x);
        s.due("stack(), marking", x.stack(), 2);
    }

    private static void healedChanges(Sentences s) {
        ColouredHeap x = Heaps.chain(16);
        x.copy(5, 0);
        s.due("healed(), idle", x.healed(), 0);
        x.collect(1);
        s.due("healed(), two roots", x.healed(), 2);
        x.load(1, 0, 0);
        s.due("healed(), a's field by a load", x.healed(), 3);
        x.collect(1);
        s.due("healed(), b's field by a step", x.healed(), 4);
        x.drop(1);
        x.collect(2);
        s.due("healed(), no bad colour", x.healed(), 4);
        x.collect(1);
        s.due("healed(), two roots, relocating", x.healed(), 6);
        x.collect(3);
        s.due("healed(), what steps move is not healed", x.healed(), 6);
        x.load(1, 0, 0);
        s.due("healed(), idle, a's field by a load", x.healed(), 7);
    }

    private static void healedAfterRefusals(Sentences s) {
        ColouredHeap x = Heaps.chain(16);
        int[] healed = {0, 1, 2, 3, 3, 4, 4, 4, 4, 5};
        for (int steps = 0; steps < healed.length; steps++) {
            Heaps.refuseEachCall(x);
            s.due("healed() after " + steps + " steps", x.healed(), healed[steps]);
            x.collect(1);
        }
    }

    private static void movedChanges(Sentences s) {
        ColouredHeap x = Heaps.chain(16);
        x.collect(4);
        s.due("moved(), marking", x.moved(), 0);
        x.collect(1);
        s.due("moved(), a by its root", x.moved(), 1);
        x.load(1, 0, 0);
        s.due("moved(), b by a load", x.moved(), 2);
        x.collect(1);
        s.due("moved(), c by a step", x.moved(), 3);
        x.collect(1);
        x.load(2, 1, 0);
        s.due("moved(), idle", x.moved(), 3);
    }

    private static void movedAfterRefusals(Sentences s) {
        ColouredHeap x = Heaps.chain(16);
        int[] moved = {0, 0, 0, 0, 0, 1, 2, 3, 3, 3};
        for (int steps = 0; steps < moved.length; steps++) {
            Heaps.refuseEachCall(x);
            s.due("moved() after " + steps + " steps", x.moved(), moved[steps]);
            x.collect(1);
        }
    }

    private static void cyclesChanges(Sentences s) {
        ColouredHeap x = Heaps.chain(16);
        for (int cycle = 1; cycle <= 3; cycle++) {
            s.due("cycles(), idle", x.cycles(), cycle - 1);
            Heaps.stepTo(x, 1);
            s.due("cycles(), marking", x.cycles(), cycle);
            Heaps.stepTo(x, 2);
            s.due("cycles(), relocating", x.cycles(), cycle);
            Heaps.stepTo(x, 0);
        }
    }

    private static void cyclesAfterRefusals(Sentences s) {
        ColouredHeap x = Heaps.chain(16);
        int[] cycles = {0, 1, 1, 1, 1, 1, 1, 1, 1, 2};
        for (int steps = 0; steps < cycles.length; steps++) {
            Heaps.refuseEachCall(x);
            s.due("cycles() after " + steps + " steps", x.cycles(), cycles[steps]);
            x.collect(1);
        }
    }

    // Promise 16. The four pages: in the relocation set, in use, the allocating one, free.

    private static void fourPages(Sentences s, int what, int... wants) {
        ColouredHeap x = Heaps.everyKindOfPage();
        for (int page = 0; page < 4; page++) {
            s.due("page(" + page + ", " + what + ")", x.page(page, what), wants[page]);
        }
    }

    private static void pageState(Sentences s) {
        fourPages(s, 0, 4, 1, 2, 0);
    }

    private static void pageUsed(Sentences s) {
        fourPages(s, 1, 16, 16, 2, 0);
    }

    private static void pageMarked(Sentences s) {
        fourPages(s, 2, 1, 2, 0, 0);
    }

    private static void pageCandidate(Sentences s) {
        fourPages(s, 3, 1, 1, 0, 0);
    }

    private static void pageForwardings(Sentences s) {
        fourPages(s, 4, 1, 0, 0, 0);
    }

    private static void pageThatBecameFree(Sentences s) {
        ColouredHeap x = Heaps.everyKindOfPage();
        x.collect(1);
        int[] wants = {0, 0, 0, 0, 2};
        for (int what = 0; what <= 4; what++) {
            s.due("page(0, " + what + ")", x.page(0, what), wants[what]);
        }
    }

    private static void pageLeastAndGreatest(Sentences s) {
        ColouredHeap x = Heaps.full(true);
        s.due("page(0, 0)", x.page(0, 0), 1);
        s.due("page(7, 0)", x.page(7, 0), 2);
        s.due("page(7, 1)", x.page(7, 1), 16);
        x.collect(31);
        s.due("page(0, 2)", x.page(0, 2), 2);
        s.due("page(7, 2)", x.page(7, 2), 4);
        s.due("page(0, 3)", x.page(0, 3), 1);
        s.due("page(7, 3)", x.page(7, 3), 1);
        s.due("page(7, 4)", x.page(7, 4), 0);
    }

    private static void pageTooSmall(Sentences s) {
        ColouredHeap x = Heaps.everyKindOfPage();
        for (int page : new int[] {-1, -8, LEAST}) {
            for (int what : new int[] {0, 1, 2, 3, 4, -1, 5, LEAST, GREATEST}) {
                s.due("page(" + page + ", " + what + ")", x.page(page, what), BAD);
            }
        }
    }

    private static void pageTooLarge(Sentences s) {
        ColouredHeap x = Heaps.everyKindOfPage();
        for (int page : new int[] {8, 16, GREATEST}) {
            for (int what : new int[] {0, 1, 2, 3, 4, -1, 5, LEAST, GREATEST}) {
                s.due("page(" + page + ", " + what + ")", x.page(page, what), BAD);
            }
        }
    }

    private static void whatTooSmall(Sentences s) {
        ColouredHeap x = Heaps.everyKindOfPage();
        for (int page = 0; page < 8; page++) {
            s.due("page(" + page + ", -1)", x.page(page, -1), BAD);
            s.due("page(" + page + ", least)", x.page(page, LEAST), BAD);
        }
    }

    private static void whatTooLarge(Sentences s) {
        ColouredHeap x = Heaps.everyKindOfPage();
        for (int page = 0; page < 8; page++) {
            s.due("page(" + page + ", 5)", x.page(page, 5), BAD);
            s.due("page(" + page + ", greatest)", x.page(page, GREATEST), BAD);
        }
    }
}
