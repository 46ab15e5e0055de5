/** A test for each sentence of the document's 'Terms', with answers worked out by hand. */
public final class TermsTest {
    private static final int BAD = ColouredHeap.BAD;
    private static final int EMPTY = ColouredHeap.EMPTY;
    private static final int FULL = ColouredHeap.FULL;

    public static void main(String[] args) {
        Sentences s = new Sentences();
        wordsAndRoom(s);
        goodColour(s);
        healing(s);
        moving(s);
        stepsWhenIdle(s);
        stepsWhenMarking(s);
        stepsWhenRelocating(s);
        s.end();
    }

    private static void wordsAndRoom(Sentences s) {
        s.test("Promise 2, Terms: PAGES 0 .. 7 of 16 WORDS each; the PLACES 0 .. 127",
                TermsTest::everyPlace);
        s.test("Promise 2, Terms: an OBJECT of n FIELDS (0 .. 3) takes n + 1 words one behind the other",
                TermsTest::wordsOfAnObject);
        s.test("Promise 2, Terms: all of one page (the object is larger than what is left)",
                TermsTest::objectTooLargeForPage);
        s.test("Promise 2, Terms: its place is that of its first word",
                TermsTest::placeIsFirstWord);
        s.test("Promise 2, Terms: an allocating page with n words not used: the room is the first of them",
                TermsTest::roomInAllocatingPage);
        s.test("Promise 2, Terms: otherwise the least free page comes into use",
                TermsTest::leastFreePage);
        s.test("Promise 2, Terms: the least free page, the allocating one being page 7",
                TermsTest::leastFreePageBelow);
        s.test("Promise 2, Terms: the least free page, there being one below the allocating one and others above it",
                TermsTest::leastFreePageBelowAndAbove);
        s.test("Promise 2, Terms: and is the allocating one then",
                TermsTest::newPageIsAllocating);
        s.test("Promise 2, Terms: no free page either, there is no room (and nothing has changed)",
                TermsTest::noRoomChangesNothing);
        s.test("Promise 2, Terms: no allocating page and no free page, there is no room",
                TermsTest::noRoomWithoutAllocatingPage);
        s.test("Promise 18, Terms: room for an object that is moved, in the allocating page or the least free one",
                TermsTest::roomForTheMoved);
    }

    private static void goodColour(Sentences s) {
        s.test("Promise 2, Terms: the GOOD colour is 3 when idle",
                TermsTest::goodWhenIdle);
        s.test("Promise 2, Terms: the GOOD colour is 3 when relocating",
                TermsTest::goodWhenRelocating);
        s.test("Promise 2, Terms: when marking, 1 in the first cycle, 2 in the second one, 1 in the third one, and so on",
                TermsTest::goodWhenMarking);
    }

    private static void healing(Sentences s) {
        s.test("Promise 3, Terms: When marking: its colour is a marking one, a forwarding: its place becomes that other place",
                TermsTest::markingForwards);
        s.test("Promise 3, Terms: When marking: its colour is 3, a forwarding for its place: the place stays (a field)",
                TermsTest::markingDoesNotForwardFieldOfColour3);
        s.test("Promise 13, Terms: When marking: its colour is 3, a forwarding for its place: the place stays (a root)",
                TermsTest::markingDoesNotForwardRootOfColour3);
        s.test("Promise 3, Terms: When marking: its colour is a marking one, no forwarding: the place stays",
                TermsTest::markingWithoutForwarding);
        s.test("Promise 15, Terms: if the object there is not marked, it is marked and put on the stack",
                TermsTest::markingMarks);
        s.test("Promise 15, Terms: (the object there is marked already: not put on the stack again)",
                TermsTest::markingMarksOnce);
        s.test("Promise 3, Terms: When marking: The colour becomes the good one",
                TermsTest::markingColours);
        s.test("Promise 3, Terms: When idle: if there is a forwarding for its place, its place becomes that other place",
                TermsTest::idleForwards);
        s.test("Promise 3, Terms: When idle: no forwarding: the place stays",
                TermsTest::idleWithoutForwarding);
        s.test("Promise 3, Terms: When idle: The colour becomes 3 (and nothing is marked or moved)",
                TermsTest::idleColours);
        s.test("Promise 3, Terms: When relocating: a forwarding: its place becomes that other place, its page being in the set still",
                TermsTest::relocatingForwardsFromSet);
        s.test("Promise 3, Terms: When relocating: a forwarding: its place becomes that other place, its page being free already",
                TermsTest::relocatingForwardsFromFreePage);
        s.test("Promise 3, Terms: otherwise, if its page is in the relocation set, the object is MOVED and its place becomes its new one",
                TermsTest::relocatingMoves);
        s.test("Promise 3, Terms: its page is not in the relocation set: the place stays, The colour becomes 3",
                TermsTest::relocatingOutsideSet);
        s.test("Promise 3, Terms: unless there is no room: then its page leaves the relocation set, and its place stays (a field)",
                TermsTest::noRoomForField);
        s.test("Promise 13, Terms: unless there is no room: then its page leaves the relocation set, and its place stays (a root)",
                TermsTest::noRoomForRoot);
        s.test("Promise 3, Terms: no room for a large object: a small one of that page, which would have room, stays too",
                TermsTest::noRoomForLargeThenSmall);
        s.test("Promise 17, Terms: A field that holds nothing stays as it is, in every phase",
                TermsTest::nothingIsNotHealed);
        s.test("Promise 17, Terms: A field that has the good colour stays as it is, in every phase",
                TermsTest::goodIsNotHealed);
        s.test("Promise 17, Terms: A root that holds nothing, or has the good colour, stays as it is",
                TermsTest::goodRootIsNotHealed);
    }

    private static void moving(Sentences s) {
        s.test("Promise 18, Terms: To MOVE an object: room is made for its words",
                TermsTest::movedWords);
        s.test("Promise 18, Terms: its value and its fields, as they are, are put there",
                TermsTest::movedAsItIs);
        s.test("Promise 16, Terms: there is a forwarding from its old place to the new one",
                TermsTest::movedLeavesForwarding);
        s.test("Promise 16, Terms: neither there nor here an object is marked then",
                TermsTest::movedIsNotMarked);
    }

    private static void stepsWhenIdle(Sentences s) {
        s.test("Promise 13, Terms: IDLE: a cycle begins. The phase becomes MARKING",
                TermsTest::cycleBegins);
        s.test("Promise 13, Terms: IDLE: no object is marked any more",
                TermsTest::oldMarksAreGone);
        s.test("Promise 13, Terms: IDLE: the pages in use, and only these, are candidates",
                TermsTest::pagesInUseAreCandidates);
        s.test("Promise 13, Terms: IDLE: no page is the allocating one any more",
                TermsTest::noAllocatingPage);
        s.test("Promise 13, Terms: IDLE: the roots are healed, 0 .. 5",
                TermsTest::rootsAreMarkedInOrder);
    }

    private static void stepsWhenMarking(Sentences s) {
        s.test("Promise 13, Terms: MARKING, the stack is not empty: the last object on it is taken off",
                TermsTest::lastIsTakenOff);
        s.test("Promise 13, Terms: MARKING, the stack is not empty: its fields are healed, first to last",
                TermsTest::fieldsAreHealedInOrder);
        s.test("Promise 13, Terms: MARKING, the stack is not empty, for the last time: the phase stays",
                TermsTest::stackBecomesEmpty);
        s.test("Promise 13, Terms: MARKING, the stack is empty: there is no forwarding any more",
                TermsTest::forwardingsAreGone);
        s.test("Promise 13, Terms: LIVE is the number of words of the marked objects (not of all, not of objects)",
                TermsTest::liveCountsMarkedWords);
        s.test("Promise 13, Terms: LIVE: with 0 the page becomes free",
                TermsTest::liveZero);
        s.test("Promise 13, Terms: if LIVE is not more than the THRESHOLD, it comes into the relocation set (LIVE equals it)",
                TermsTest::liveEqualsThreshold);
        s.test("Promise 13, Terms: LIVE is one more than the THRESHOLD: it does not come into the relocation set",
                TermsTest::liveAboveThreshold);
        s.test("Promise 13, Terms: For each candidate: a page that is none is not looked at",
                TermsTest::onlyCandidatesAreJudged);
        s.test("Promise 13, Terms: Then (after the pages) the roots are healed: the pages that became free are room",
                TermsTest::freedPageIsRoomForRoots);
        s.test("Promise 13, Terms: the phase becomes RELOCATING, and the roots are healed, 0 .. 5",
                TermsTest::rootsAreMovedInOrder);
    }

    private static void stepsWhenRelocating(Sentences s) {
        s.test("Promise 13, Terms: RELOCATING, the relocation set is not empty: its least page is looked at",
                TermsTest::leastPageOfSet);
        s.test("Promise 13, Terms: If a marked object is in it, the one of them with the least place is moved (and one alone)",
                TermsTest::leastPlaceIsMoved);
        s.test("Promise 13, Terms: if there is no room for it, the page leaves the relocation set instead",
                TermsTest::noRoomForStep);
        s.test("Promise 13, Terms: If then no marked object is in it, it leaves the set and becomes free (by the same step)",
                TermsTest::lastMoveFreesPage);
        s.test("Promise 13, Terms: If then no marked object is in it (none was, before): it becomes free, nothing is moved",
                TermsTest::emptiedPageIsFreed);
        s.test("Promise 13, Terms: RELOCATING, the set is empty: the phase becomes IDLE",
                TermsTest::emptySetEndsCycle);
        s.test("Promise 16, Terms: A page that becomes free has no words used, and is no candidate",
                TermsTest::freePageHasNothing);
        s.test("Promise 16, Terms: A page that becomes free: forwardings for its places stay",
                TermsTest::freePageKeepsForwardings);
        s.test("Promise 16, Terms: A page that leaves the set for want of room stays in use",
                TermsTest::leftPageStaysInUse);
        s.test("Promise 16, Terms: A page that leaves the set for want of room: forwardings for its places stay, too",
                TermsTest::leftPageKeepsForwardings);
    }

    // Words and room

    private static void everyPlace(Sentences s) {
        ColouredHeap x = new ColouredHeap(4);
        for (int place = 0; place < 128; place++) {
            s.due("make of one word", x.make(0, 0, place), place);
            s.due("page(" + place / 16 + ", 1)", x.page(place / 16, 1), place % 16 + 1);
        }
        s.due("make of the 129th word", x.make(0, 0, 0), FULL);
    }

    private static void wordsOfAnObject(Sentences s) {
        for (int n = 0; n <= 3; n++) {
            ColouredHeap x = new ColouredHeap(4);
            x.make(0, n, 0);
            s.due("page(0, 1) with " + n + " fields", x.page(0, 1), n + 1);
            s.due("the next place after " + n + " fields", x.make(1, 0, 0), n + 1);
        }
    }

    private static void objectTooLargeForPage(Sentences s) {
        for (int left = 0; left <= 3; left++) {
            for (int words = left + 1; words <= 4; words++) {
                ColouredHeap x = Heaps.withWordsLeft(left);
                s.due(words + " words with " + left + " left", x.make(1, words - 1, 0), 16);
                s.due("page(0, 1)", x.page(0, 1), 16 - left);
                s.due("page(1, 1)", x.page(1, 1), words);
            }
        }
    }

    private static void placeIsFirstWord(Sentences s) {
        ColouredHeap x = new ColouredHeap(4);
        for (int root = 0; root < 4; root++) {
            s.due("make(" + root + ", 3, 0)", x.make(root, 3, 0), 4 * root);
            s.due("place(" + root + ")", x.place(root), 4 * root);
        }
    }

    private static void roomInAllocatingPage(Sentences s) {
        for (int left = 1; left <= 16; left++) {
            for (int words = 1; words <= Math.min(left, 4); words++) {
                ColouredHeap x = Heaps.withWordsLeft(left);
                s.due(words + " words with " + left + " left", x.make(1, words - 1, 0), 16 - left);
                s.due("page(0, 1)", x.page(0, 1), 16 - left + words);
                s.due("page(1, 0)", x.page(1, 0), 0);
            }
        }
    }

    /** Relocating with a threshold of 1: the pages 0 and 2 became free, 1 and 3 are in use. */
    private static ColouredHeap freePagesBetween() {
        ColouredHeap x = new ColouredHeap(1);
        for (int page = 0; page < 3; page++) {
            for (int i = 0; i < 4; i++) {
                x.make(page, 3, 0);
            }
        }
        x.make(3, 3, 0);
        x.drop(0);
        x.drop(2);
        x.collect(4);
        return x;
    }

    private static void leastFreePage(Sentences s) {
        ColouredHeap x = freePagesBetween();
        s.due("page(0, 0)", x.page(0, 0), 0);
        s.due("page(1, 0)", x.page(1, 0), 1);
        s.due("page(2, 0)", x.page(2, 0), 0);
        s.due("page(3, 0)", x.page(3, 0), 1);
        for (int place : new int[] {0, 4, 8, 12, 32, 36, 40, 44, 64}) {
            s.due("make of 4 words", x.make(0, 3, 0), place);
        }
    }

    private static void leastFreePageBelow(Sentences s) {
        ColouredHeap x = new ColouredHeap(1);
        for (int i = 0; i < 4; i++) {
            x.make(0, 3, 0);
        }
        for (int i = 4; i < 28; i++) {
            x.make(2, 3, 0);
            x.store(2, 0, 1);
            x.copy(1, 2);
        }
        x.drop(0);
        x.drop(2);
        x.collect(1);
        s.due("make while page 7 alone is free", x.make(3, 3, 0), 112);
        x.collect(24 + 1);
        s.due("page(0, 0), dead", x.page(0, 0), 0);
        for (int place : new int[] {116, 120, 124, 0, 4}) {
            s.due("make of 4 words", x.make(3, 3, 0), place);
        }
    }

    private static void leastFreePageBelowAndAbove(Sentences s) {
        ColouredHeap x = new ColouredHeap(1);
        for (int page = 0; page < 2; page++) {
            for (int i = 0; i < 4; i++) {
                x.make(page, 3, 0);
            }
        }
        x.drop(0);
        x.collect(1);
        s.due("make when marking", x.make(3, 3, 0), 32);
        s.due("collect(2)", x.collect(2), 2);
        s.due("page(0, 0), dead", x.page(0, 0), 0);
        for (int place : new int[] {36, 40, 44, 0}) {
            s.due("make of 4 words", x.make(3, 3, 0), place);
        }
    }

    private static void newPageIsAllocating(Sentences s) {
        ColouredHeap x = Heaps.withWordsLeft(1);
        s.due("page(0, 0) before", x.page(0, 0), 2);
        x.make(1, 1, 0);
        s.due("page(0, 0)", x.page(0, 0), 1);
        s.due("page(1, 0)", x.page(1, 0), 2);
        s.due("one word, which page 0 would have", x.make(1, 0, 0), 18);
    }

    private static void noRoomChangesNothing(Sentences s) {
        ColouredHeap x = new ColouredHeap(4);
        for (int i = 0; i < 31; i++) {
            x.make(0, 3, 0);
        }
        x.make(0, 1, 0);
        String before = Heaps.seen(x);
        s.due("3 words with 2 left", x.make(1, 2, 0), FULL);
        s.due("4 words with 2 left", x.make(1, 3, 0), FULL);
        s.due("what is seen", Heaps.seen(x), before);
        s.due("page(7, 0)", x.page(7, 0), 2);
        s.due("2 words with 2 left", x.make(1, 1, 0), 126);
        s.due("1 word with 0 left", x.make(1, 0, 0), FULL);
    }

    private static void noRoomWithoutAllocatingPage(Sentences s) {
        ColouredHeap x = new ColouredHeap(4);
        for (int i = 0; i < 31; i++) {
            x.make(0, 3, 0);
        }
        x.collect(1);
        String before = Heaps.seen(x);
        for (int n = 0; n <= 3; n++) {
            s.due(n + 1 + " words", x.make(1, n, 0), FULL);
        }
        s.due("what is seen", Heaps.seen(x), before);
        s.due("page(7, 1)", x.page(7, 1), 12);
    }

    /** The place that root 0's object of 4 words is moved to, after so many words were made when marking. */
    private static int placeMovedTo(int wordsMade) {
        ColouredHeap x = new ColouredHeap(16);
        x.make(0, 3, 0);
        x.collect(1);
        for (int i = 0; i < wordsMade; i++) {
            x.make(1, 0, 0);
        }
        x.collect(2);
        return x.place(0);
    }

    private static void roomForTheMoved(Sentences s) {
        s.due("moved, no allocating page", placeMovedTo(0), 16);
        s.due("moved, 15 words left", placeMovedTo(1), 17);
        s.due("moved, 4 words left", placeMovedTo(12), 28);
        s.due("moved, 3 words left", placeMovedTo(13), 32);
        s.due("moved, no word left", placeMovedTo(16), 32);
    }

    // The good colour

    private static void goodWhenIdle(Sentences s) {
        ColouredHeap x = new ColouredHeap(4);
        s.due("new, colour", Heaps.colourOfNew(x, 0), 3);
        Heaps.stepTo(x, 0);
        s.due("after the first cycle, colour", Heaps.colourOfNew(x, 0), 3);
        Heaps.stepTo(x, 0);
        s.due("after the second cycle, colour", Heaps.colourOfNew(x, 0), 3);
    }

    private static void goodWhenRelocating(Sentences s) {
        ColouredHeap x = new ColouredHeap(4);
        for (int cycle = 1; cycle <= 3; cycle++) {
            Heaps.stepTo(x, 2);
            s.due("relocating, cycle " + cycle + ", colour", Heaps.colourOfNew(x, 0), 3);
        }
    }

    private static void goodWhenMarking(Sentences s) {
        ColouredHeap x = new ColouredHeap(4);
        for (int cycle = 1; cycle <= 6; cycle++) {
            Heaps.stepTo(x, 1);
            s.due("marking, cycle " + cycle + ", colour", Heaps.colourOfNew(x, 0), cycle % 2 == 1 ? 1 : 2);
            Heaps.stepTo(x, 0);
        }
    }

    // Healing

    private static void markingForwards(Sentences s) {
        ColouredHeap x = Heaps.chain(16);
        x.collect(8);
        x.collect(1);
        s.due("colour(0, 0), as cycle 1 left it", x.colour(0, 0), 1);
        s.due("behind(0, 0), as cycle 1 left it", x.behind(0, 0), 2);
        s.due("load(1, 0, 0)", x.load(1, 0, 0), 1);
        s.due("behind(0, 0)", x.behind(0, 0), 18);
        s.due("place(1)", x.place(1), 18);
        s.due("value(1)", x.value(1), 102);
        s.due("page(1, 2), a and b", x.page(1, 2), 2);
        s.due("page(0, 2)", x.page(0, 2), 0);
    }

    private static void markingDoesNotForwardFieldOfColour3(Sentences s) {
        ColouredHeap x = Heaps.placeUsedAgain();
        x.drop(1);
        x.collect(1);
        s.due("page(0, 4)", x.page(0, 4), 1);
        s.due("colour(0, 0)", x.colour(0, 0), 3);
        s.due("load(2, 0, 0)", x.load(2, 0, 0), 1);
        s.due("place(2)", x.place(2), 0);
        s.due("behind(0, 0)", x.behind(0, 0), 0);
        s.due("value(2)", x.value(2), 102);
        s.due("page(0, 2), b", x.page(0, 2), 1);
    }

    private static void markingDoesNotForwardRootOfColour3(Sentences s) {
        ColouredHeap x = Heaps.placeUsedAgain();
        s.due("page(0, 4)", x.page(0, 4), 1);
        x.collect(1);
        s.due("place(1)", x.place(1), 0);
        s.due("value(1)", x.value(1), 102);
        s.due("page(0, 2), b", x.page(0, 2), 1);
        s.due("stack()", x.stack(), 2);
    }

    private static void markingWithoutForwarding(Sentences s) {
        ColouredHeap x = Heaps.chain(1);
        x.collect(6);
        x.collect(1);
        s.due("colour(0, 0), as cycle 1 left it", x.colour(0, 0), 1);
        s.due("load(1, 0, 0)", x.load(1, 0, 0), 1);
        s.due("place(1)", x.place(1), 2);
        s.due("behind(0, 0)", x.behind(0, 0), 2);
    }

    private static void markingMarks(Sentences s) {
        ColouredHeap x = Heaps.chain(1);
        x.collect(1);
        s.due("page(0, 2), a by its root", x.page(0, 2), 1);
        s.due("stack(), a by its root", x.stack(), 1);
        x.load(1, 0, 0);
        s.due("page(0, 2), b by a load", x.page(0, 2), 2);
        s.due("stack(), b by a load", x.stack(), 2);
        x.collect(1);
        s.due("page(0, 2), c by a step", x.page(0, 2), 3);
        s.due("stack(), c by a step, b taken off", x.stack(), 2);
    }

    private static void markingMarksOnce(Sentences s) {
        ColouredHeap x = new ColouredHeap(1);
        x.make(0, 2, 0);
        x.store(0, 0, 0);
        x.store(0, 1, 0);
        x.copy(5, 0);
        x.collect(1);
        s.due("stack(), two roots of one object", x.stack(), 1);
        s.due("healed(), two roots", x.healed(), 2);
        x.load(1, 0, 0);
        s.due("stack(), a field of a marked object on it", x.stack(), 1);
        s.due("colour(0, 0)", x.colour(0, 0), 1);
        x.collect(1);
        s.due("stack(), a field of a marked object off it", x.stack(), 0);
        s.due("colour(0, 1)", x.colour(0, 1), 1);
        s.due("page(0, 2)", x.page(0, 2), 1);
    }

    private static void markingColours(Sentences s) {
        ColouredHeap x = Heaps.chain(1);
        x.collect(1);
        s.due("colour(0, 0), cycle 1, not healed", x.colour(0, 0), 3);
        x.load(1, 0, 0);
        s.due("colour(0, 0), cycle 1", x.colour(0, 0), 1);
        Heaps.stepTo(x, 0);
        x.collect(1);
        s.due("colour(0, 0), cycle 2, not healed", x.colour(0, 0), 1);
        x.load(1, 0, 0);
        s.due("colour(0, 0), cycle 2", x.colour(0, 0), 2);
        Heaps.stepTo(x, 0);
        x.collect(1);
        s.due("colour(0, 0), cycle 3, not healed", x.colour(0, 0), 2);
        x.load(1, 0, 0);
        s.due("colour(0, 0), cycle 3", x.colour(0, 0), 1);
    }

    private static void idleForwards(Sentences s) {
        ColouredHeap x = Heaps.chain(16);
        s.due("collect(8)", x.collect(8), 0);
        s.due("behind(0, 0), not healed", x.behind(0, 0), 2);
        s.due("load(1, 0, 0)", x.load(1, 0, 0), 1);
        s.due("place(1)", x.place(1), 18);
        s.due("behind(0, 0)", x.behind(0, 0), 18);
        s.due("value(1)", x.value(1), 102);
    }

    private static void idleWithoutForwarding(Sentences s) {
        ColouredHeap x = Heaps.chain(1);
        s.due("collect(6)", x.collect(6), 0);
        s.due("load(1, 0, 0)", x.load(1, 0, 0), 1);
        s.due("place(1)", x.place(1), 2);
        s.due("behind(0, 0)", x.behind(0, 0), 2);
    }

    private static void idleColours(Sentences s) {
        for (int cycle = 1; cycle <= 2; cycle++) {
            ColouredHeap x = Heaps.chain(1);
            x.collect(6 * cycle);
            s.due("colour(0, 0), not healed", x.colour(0, 0), cycle);
            x.load(1, 0, 0);
            s.due("colour(0, 0)", x.colour(0, 0), 3);
            s.due("stack()", x.stack(), 0);
            s.due("page(0, 2)", x.page(0, 2), 3);
            s.due("moved()", x.moved(), 0);
        }

        // Here b was moved, so that it is no longer marked.
        ColouredHeap x = Heaps.chain(16);
        x.collect(8);
        x.load(1, 0, 0);
        s.due("colour(0, 0), b moved", x.colour(0, 0), 3);
        s.due("stack(), b moved", x.stack(), 0);
        s.due("page(1, 2), b moved", x.page(1, 2), 0);
        s.due("moved(), b moved", x.moved(), 3);
    }

    /**
     * Relocating: root 0 holds a, moved from 0 to 16, whose fields 0 and 1 hold b (4), and field 2
     * holds c (5); both are in page 0, which is in the set.
     */
    private static ColouredHeap twoFieldsOfOneObject() {
        ColouredHeap x = new ColouredHeap(16);
        x.make(0, 3, 101);
        x.make(1, 0, 102);
        x.store(0, 0, 1);
        x.store(0, 1, 1);
        x.make(1, 0, 103);
        x.store(0, 2, 1);
        x.drop(1);
        x.collect(1 + 3 + 1);
        return x;
    }

    private static void relocatingForwardsFromSet(Sentences s) {
        ColouredHeap x = twoFieldsOfOneObject();
        x.load(1, 0, 0);
        s.due("page(0, 0)", x.page(0, 0), 4);
        s.due("moved()", x.moved(), 2);
        s.due("load(2, 0, 1)", x.load(2, 0, 1), 1);
        s.due("place(2)", x.place(2), 20);
        s.due("behind(0, 1)", x.behind(0, 1), 20);
        s.due("colour(0, 1)", x.colour(0, 1), 3);
        s.due("moved(), not once more", x.moved(), 2);
        s.due("page(1, 1)", x.page(1, 1), 5);
    }

    private static void relocatingForwardsFromFreePage(Sentences s) {
        ColouredHeap x = twoFieldsOfOneObject();
        x.collect(2);
        s.due("phase()", x.phase(), 2);
        s.due("page(0, 0)", x.page(0, 0), 0);
        s.due("load(1, 0, 2)", x.load(1, 0, 2), 1);
        s.due("place(1)", x.place(1), 21);
        s.due("behind(0, 2)", x.behind(0, 2), 21);
        s.due("colour(0, 2)", x.colour(0, 2), 3);
        s.due("value(1)", x.value(1), 103);
        s.due("moved()", x.moved(), 3);
    }

    private static void relocatingMoves(Sentences s) {
        ColouredHeap x = twoFieldsOfOneObject();
        s.due("place(0), a root", x.place(0), 16);
        s.due("moved(), a root", x.moved(), 1);
        s.due("load(1, 0, 2), a field", x.load(1, 0, 2), 1);
        s.due("place(1)", x.place(1), 20);
        s.due("behind(0, 2)", x.behind(0, 2), 20);
        s.due("colour(0, 2)", x.colour(0, 2), 3);
        s.due("value(1)", x.value(1), 103);
        s.due("moved(), a field", x.moved(), 2);
    }

    private static void relocatingOutsideSet(Sentences s) {
        ColouredHeap x = Heaps.chain(5);
        x.collect(5);
        s.due("phase()", x.phase(), 2);
        s.due("page(0, 0)", x.page(0, 0), 1);
        s.due("place(0), a root", x.place(0), 0);
        s.due("colour(0, 0), not healed", x.colour(0, 0), 1);
        s.due("load(1, 0, 0)", x.load(1, 0, 0), 1);
        s.due("place(1)", x.place(1), 2);
        s.due("behind(0, 0)", x.behind(0, 0), 2);
        s.due("colour(0, 0)", x.colour(0, 0), 3);
        s.due("moved()", x.moved(), 0);
        s.due("page(0, 2)", x.page(0, 2), 3);
    }

    private static void noRoomForField(Sentences s) {
        ColouredHeap x = Heaps.full(false);
        x.collect(32);
        s.due("page(0, 0)", x.page(0, 0), 4);
        int healed = x.healed();
        s.due("load(3, 1, 1)", x.load(3, 1, 1), 1);
        s.due("page(0, 0), left", x.page(0, 0), 1);
        s.due("place(3)", x.place(3), 0);
        s.due("behind(1, 1)", x.behind(1, 1), 0);
        s.due("colour(1, 1)", x.colour(1, 1), 3);
        s.due("healed()", x.healed(), healed + 1);
        s.due("moved()", x.moved(), 0);
        s.due("page(0, 4)", x.page(0, 4), 0);
        s.due("page(0, 2), a and b", x.page(0, 2), 2);
    }

    private static void noRoomForRoot(Sentences s) {
        ColouredHeap x = Heaps.full(true);
        x.collect(31);
        s.due("phase()", x.phase(), 1);
        int healed = x.healed();
        s.due("collect(1)", x.collect(1), 2);
        s.due("page(0, 0)", x.page(0, 0), 1);
        s.due("place(0)", x.place(0), 0);
        s.due("healed(), two roots", x.healed(), healed + 2);
        s.due("moved()", x.moved(), 0);
        x.store(0, 1, 0);
        s.due("colour(0, 1), the root's", x.colour(0, 1), 3);
        s.due("collect(1), the set is empty", x.collect(1), 0);
    }

    /**
     * Marking, the stack is empty, no page is free, and the allocating page 7 has 3 words left: too
     * few for a (root 0, place 0, 4 words), enough for d (place 8, one word), which a's field 1 holds.
     */
    private static ColouredHeap threeWordsLeft() {
        ColouredHeap x = new ColouredHeap(15);
        x.make(0, 3, 101);
        x.make(1, 3, 102);
        x.store(0, 0, 1);
        x.make(1, 0, 103);
        x.store(0, 1, 1);
        x.drop(1);
        for (int n : new int[] {3, 2}) {
            x.make(2, n, 0);
        }
        for (int place = 16; place < 112; place += 4) {
            x.make(2, 3, place);
            x.store(2, 0, 1);
            x.copy(1, 2);
        }
        x.drop(2);
        x.collect(1);
        for (int n : new int[] {3, 3, 3, 0}) {
            x.make(3, n, 0);
        }
        x.collect(24 + 3);
        return x;
    }

    private static void noRoomForLargeThenSmall(Sentences s) {
        ColouredHeap x = threeWordsLeft();
        s.due("stack()", x.stack(), 0);
        s.due("page(7, 1)", x.page(7, 1), 13);
        s.due("collect(1)", x.collect(1), 2);
        s.due("page(0, 0)", x.page(0, 0), 1);
        s.due("place(0)", x.place(0), 0);
        s.due("load(4, 0, 1)", x.load(4, 0, 1), 1);
        s.due("place(4)", x.place(4), 8);
        s.due("colour(0, 1)", x.colour(0, 1), 3);
        s.due("moved()", x.moved(), 0);
        s.due("page(7, 1)", x.page(7, 1), 13);
        s.due("make of the 3 words", x.make(4, 2, 0), 125);
    }

    private static void nothingIsNotHealed(Sentences s) {
        ColouredHeap x = new ColouredHeap(1);
        x.make(0, 1, 0);
        for (int i = 0; i < 8; i++) {
            int healed = x.healed();
            s.due("load(1, 0, 0) in phase " + x.phase(), x.load(1, 0, 0), 0);
            s.due("colour(0, 0)", x.colour(0, 0), 0);
            s.due("behind(0, 0)", x.behind(0, 0), BAD);
            s.due("healed()", x.healed(), healed);
            s.due("moved()", x.moved(), 0);
            x.collect(1);
        }
        s.due("cycles()", x.cycles(), 2);
        s.due("healed(), root 0 alone, twice a cycle", x.healed(), 4);
    }

    private static void goodIsNotHealed(Sentences s) {
        ColouredHeap x = new ColouredHeap(16);
        x.make(0, 1, 0);
        for (int i = 0; i < 10; i++) {
            x.store(0, 0, 0);
            int healed = x.healed();
            int stack = x.stack();
            int moved = x.moved();
            int colour = x.colour(0, 0);
            s.due("load(1, 0, 0) in phase " + x.phase(), x.load(1, 0, 0), 1);
            s.due("place(1)", x.place(1), x.place(0));
            s.due("colour(0, 0)", x.colour(0, 0), colour);
            s.due("healed()", x.healed(), healed);
            s.due("stack()", x.stack(), stack);
            s.due("moved()", x.moved(), moved);
            x.drop(1);
            x.collect(1);
        }
        s.due("cycles()", x.cycles(), 2);

        // An object that is made when marking is not marked, though its reference is good.
        x = new ColouredHeap(16);
        x.collect(1);
        x.make(0, 1, 0);
        x.store(0, 0, 0);
        s.due("load(1, 0, 0)", x.load(1, 0, 0), 1);
        s.due("stack()", x.stack(), 0);
        s.due("page(0, 2)", x.page(0, 2), 0);
    }

    private static void goodRootIsNotHealed(Sentences s) {
        ColouredHeap x = new ColouredHeap(16);
        x.make(5, 0, 0);
        s.due("healed(), idle", x.healed(), 0);
        x.collect(1);
        s.due("healed(), one root of six holds something", x.healed(), 1);
        s.due("place(0)", x.place(0), EMPTY);
        x.collect(1);
        s.due("healed(), marking", x.healed(), 1);
        x.collect(1);
        s.due("healed(), relocating begins", x.healed(), 2);
        s.due("place(0)", x.place(0), EMPTY);
        s.due("collect(2)", x.collect(2), 0);
        s.due("healed(), idle: the root has colour 3 already", x.healed(), 2);
    }

    // Moving

    private static void movedWords(Sentences s) {
        for (int n = 0; n <= 3; n++) {
            ColouredHeap x = new ColouredHeap(16);
            x.make(0, n, 0);
            x.make(1, n, 0);
            x.collect(1 + 2 + 1);
            s.due("place(0) with " + n + " fields", x.place(0), 16);
            s.due("place(1) with " + n + " fields", x.place(1), 16 + n + 1);
            s.due("page(1, 1)", x.page(1, 1), 2 * (n + 1));
            s.due("moved()", x.moved(), 2);
        }
    }

    private static void movedAsItIs(Sentences s) {
        ColouredHeap x = new ColouredHeap(16);
        x.make(0, 3, Integer.MIN_VALUE);
        x.make(1, 0, Integer.MAX_VALUE);
        x.store(0, 0, 0);
        x.store(0, 2, 1);
        x.collect(1 + 2 + 1);
        s.due("place(0)", x.place(0), 16);
        s.due("place(1)", x.place(1), 20);
        s.due("value(0)", x.value(0), Integer.MIN_VALUE);
        s.due("value(1)", x.value(1), Integer.MAX_VALUE);
        s.due("fields(0)", x.fields(0), 3);
        s.due("fields(1)", x.fields(1), 0);
        s.due("colour(0, 0)", x.colour(0, 0), 1);
        s.due("behind(0, 0)", x.behind(0, 0), 0);
        s.due("colour(0, 1)", x.colour(0, 1), 0);
        s.due("behind(0, 1)", x.behind(0, 1), BAD);
        s.due("colour(0, 2)", x.colour(0, 2), 1);
        s.due("behind(0, 2)", x.behind(0, 2), 4);
    }

    private static void movedLeavesForwarding(Sentences s) {
        ColouredHeap x = new ColouredHeap(16);
        x.make(0, 1, 101);
        x.make(1, 0, 102);
        x.store(0, 0, 0);
        x.collect(1 + 2);
        s.due("page(0, 4), none is moved", x.page(0, 4), 0);
        x.collect(1);
        s.due("page(0, 4), both are moved", x.page(0, 4), 2);
        s.due("page(1, 4)", x.page(1, 4), 0);
        x.load(2, 0, 0);
        s.due("place(2), a by its old place", x.place(2), 16);
    }

    private static void movedIsNotMarked(Sentences s) {
        ColouredHeap x = Heaps.chain(16);
        x.collect(4);
        s.due("page(0, 2), a, b, c", x.page(0, 2), 3);
        x.collect(1);
        s.due("page(0, 2), a moved by its root", x.page(0, 2), 2);
        s.due("page(1, 2)", x.page(1, 2), 0);
        x.load(1, 0, 0);
        s.due("page(0, 2), b moved by a load", x.page(0, 2), 1);
        s.due("page(1, 2)", x.page(1, 2), 0);
        x.collect(1);
        s.due("page(0, 2), c moved by a step", x.page(0, 2), 0);
        s.due("page(1, 2)", x.page(1, 2), 0);
    }

    // Steps when idle

    private static void cycleBegins(Sentences s) {
        ColouredHeap x = new ColouredHeap(4);
        s.due("collect(1) on an empty heap", x.collect(1), 1);
        s.due("phase()", x.phase(), 1);
        s.due("cycles()", x.cycles(), 1);
        s.due("collect(2)", x.collect(2), 0);
        s.due("collect(1)", x.collect(1), 1);
        s.due("cycles()", x.cycles(), 2);
    }

    private static void oldMarksAreGone(Sentences s) {
        ColouredHeap x = Heaps.chain(1);
        s.due("collect(6)", x.collect(6), 0);
        s.due("page(0, 2), of cycle 1", x.page(0, 2), 3);
        x.collect(1);
        s.due("page(0, 2), root 0's alone", x.page(0, 2), 1);

        x = Heaps.chain(1);
        x.collect(6);
        x.drop(0);
        x.collect(1);
        s.due("page(0, 2), no root", x.page(0, 2), 0);
        s.due("stack()", x.stack(), 0);
        x.collect(1);
        s.due("page(0, 0), dead now", x.page(0, 0), 0);
    }

    private static void pagesInUseAreCandidates(Sentences s) {
        ColouredHeap x = Heaps.everyKindOfPage();
        s.due("collect(2)", x.collect(2), 0);
        s.due("page(0, 3), freed", x.page(0, 3), 0);
        s.due("page(1, 3), of the last cycle", x.page(1, 3), 1);
        s.due("page(2, 3), in use since", x.page(2, 3), 0);
        x.collect(1);
        s.due("page(0, 3), free", x.page(0, 3), 0);
        s.due("page(1, 3), in use", x.page(1, 3), 1);
        s.due("page(2, 3), in use and the allocating one till now", x.page(2, 3), 1);
        for (int page = 3; page < 8; page++) {
            s.due("page(" + page + ", 3), free", x.page(page, 3), 0);
        }
    }

    private static void noAllocatingPage(Sentences s) {
        ColouredHeap x = Heaps.withWordsLeft(15);
        s.due("page(0, 0)", x.page(0, 0), 2);
        x.collect(1);
        s.due("page(0, 0)", x.page(0, 0), 1);
        s.due("make(0, 0, 0)", x.make(0, 0, 0), 16);
        s.due("page(1, 0)", x.page(1, 0), 2);
        s.due("page(0, 1)", x.page(0, 1), 1);
    }

    private static void rootsAreMarkedInOrder(Sentences s) {
        ColouredHeap x = new ColouredHeap(1);
        for (int root = 0; root < 6; root++) {
            x.make(root, 1, 0);
            x.store(root, 0, root);
        }
        x.collect(1);
        s.due("stack()", x.stack(), 6);
        s.due("healed()", x.healed(), 6);
        s.due("page(0, 2)", x.page(0, 2), 6);
        for (int taken = 5; taken >= 0; taken--) {
            x.collect(1);
            for (int root = 0; root < 6; root++) {
                s.due("colour(" + root + ", 0)", x.colour(root, 0), root >= taken ? 1 : 3);
            }
        }
    }

    // Steps when marking

    private static void lastIsTakenOff(Sentences s) {
        ColouredHeap x = new ColouredHeap(1);
        for (int root = 0; root < 3; root++) {
            x.make(root, 1, 0);
            x.store(root, 0, root);
        }
        x.collect(1);
        s.due("stack()", x.stack(), 3);
        x.collect(1);
        s.due("stack(), one less", x.stack(), 2);
        s.due("colour(2, 0), the last one's", x.colour(2, 0), 1);
        s.due("colour(1, 0)", x.colour(1, 0), 3);
        s.due("colour(0, 0)", x.colour(0, 0), 3);

        // An object that a load puts there later comes off before the roots' ones.
        x = Heaps.chain(1);
        x.collect(1);
        x.load(1, 0, 0);
        x.collect(1);
        s.due("colour(1, 0), b was taken off", x.colour(1, 0), 1);
        s.due("stack(), a and c", x.stack(), 2);
    }

    private static void fieldsAreHealedInOrder(Sentences s) {
        ColouredHeap x = new ColouredHeap(1);
        x.make(0, 3, 0);
        for (int f = 0; f < 3; f++) {
            x.make(1, 1, f);
            x.store(1, 0, 1);
            x.store(0, f, 1);
        }
        x.drop(1);
        x.collect(2);
        s.due("stack(), three fields", x.stack(), 3);
        s.due("healed(), a root and three fields", x.healed(), 4);
        for (int f = 0; f < 3; f++) {
            s.due("colour(0, " + f + ")", x.colour(0, f), 1);
        }
        for (int taken = 2; taken >= 0; taken--) {
            x.collect(1);
            for (int f = 0; f < 3; f++) {
                x.load(1, 0, f);
                s.due("the colour in field " + f + "'s object", x.colour(1, 0), f >= taken ? 1 : 3);
            }
        }
    }

    private static void stackBecomesEmpty(Sentences s) {
        ColouredHeap x = new ColouredHeap(16);
        x.make(0, 0, 0);
        s.due("collect(1)", x.collect(1), 1);
        s.due("stack()", x.stack(), 1);
        s.due("collect(1), takes the last one off", x.collect(1), 1);
        s.due("stack()", x.stack(), 0);
        s.due("page(0, 0)", x.page(0, 0), 1);
        s.due("moved()", x.moved(), 0);
        s.due("collect(1), the stack being empty", x.collect(1), 2);

        x = new ColouredHeap(16);
        s.due("collect(1), no root", x.collect(1), 1);
        s.due("collect(1), no root: the stack is empty at once", x.collect(1), 2);
    }

    private static void forwardingsAreGone(Sentences s) {
        ColouredHeap x = Heaps.chain(16);
        s.due("collect(8)", x.collect(8), 0);
        x.drop(0);
        s.due("page(0, 4), idle", x.page(0, 4), 3);
        s.due("collect(1)", x.collect(1), 1);
        s.due("page(0, 4), marking", x.page(0, 4), 3);
        s.due("collect(1)", x.collect(1), 2);
        s.due("page(0, 4), relocating", x.page(0, 4), 0);
    }

    /** What page 0 is once the pages were looked at, with so many dead and so many live words in it. */
    private static int stateWithLive(int threshold, int live, int dead) {
        ColouredHeap x = new ColouredHeap(threshold);
        for (int i = 0; i < dead; i++) {
            x.make(0, 0, 0);
        }
        x.drop(0);
        int root = 0;
        for (int left = live; left > 0; left -= 4) {
            x.make(root, Math.min(4, left) - 1, 0);
            root++;
        }
        Heaps.stepTo(x, 2);
        return x.page(0, 0);
    }

    private static void liveCountsMarkedWords(Sentences s) {
        s.due("1 live and 15 dead words, threshold 1", stateWithLive(1, 1, 15), 4);
        s.due("4 live and 12 dead words, threshold 4", stateWithLive(4, 4, 12), 4);
        s.due("4 live words of one object, threshold 3", stateWithLive(3, 4, 0), 1);
        s.due("4 live words of one object, threshold 1", stateWithLive(1, 4, 0), 1);
        s.due("8 live words of two objects, threshold 7", stateWithLive(7, 8, 0), 1);
    }

    private static void liveZero(Sentences s) {
        s.due("no live word, threshold 1", stateWithLive(1, 0, 12), 0);
        s.due("no live word, threshold 4", stateWithLive(4, 0, 1), 0);
        s.due("no live word, threshold 16", stateWithLive(16, 0, 5), 0);
    }

    private static void liveEqualsThreshold(Sentences s) {
        for (int threshold = 1; threshold <= 16; threshold++) {
            s.due("threshold " + threshold + ", as many words", stateWithLive(threshold, threshold, 0), 4);
        }
    }

    private static void liveAboveThreshold(Sentences s) {
        for (int threshold = 1; threshold <= 15; threshold++) {
            s.due("threshold " + threshold + ", one word more", stateWithLive(threshold, threshold + 1, 0), 1);
        }
    }

    private static void onlyCandidatesAreJudged(Sentences s) {
        ColouredHeap x = new ColouredHeap(16);
        x.collect(1);
        for (int i = 0; i < 5; i++) {
            x.make(0, 3, 0);
        }
        s.due("page(0, 3), made since the cycle began", x.page(0, 3), 0);
        s.due("page(0, 2)", x.page(0, 2), 0);
        s.due("collect(1)", x.collect(1), 2);
        s.due("page(0, 0)", x.page(0, 0), 1);
        s.due("page(0, 1)", x.page(0, 1), 16);
        s.due("page(1, 0)", x.page(1, 0), 2);
        s.due("page(1, 1)", x.page(1, 1), 4);
        s.due("place(0)", x.place(0), 16);
        s.due("moved()", x.moved(), 0);
    }

    private static void freedPageIsRoomForRoots(Sentences s) {
        // Page 0 has root 0's object of 4 words, page 1 is dead, the others keep 16 live words each.
        ColouredHeap x = new ColouredHeap(15);
        x.make(0, 3, 101);
        for (int i = 1; i < 8; i++) {
            x.make(1, 3, 0);
        }
        x.drop(1);
        for (int i = 8; i < 32; i++) {
            x.make(2, 3, 0);
            x.store(2, 0, 1);
            x.copy(1, 2);
        }
        x.drop(2);
        x.collect(1 + 24 + 1);
        s.due("stack()", x.stack(), 0);
        s.due("collect(1)", x.collect(1), 2);
        s.due("place(0)", x.place(0), 16);
        s.due("page(0, 0)", x.page(0, 0), 4);
        s.due("page(1, 0)", x.page(1, 0), 2);
    }

    private static void rootsAreMovedInOrder(Sentences s) {
        ColouredHeap x = new ColouredHeap(16);
        for (int root = 5; root >= 0; root--) {
            x.make(root, 0, root);
        }
        x.collect(1 + 6);
        s.due("collect(1)", x.collect(1), 2);
        for (int root = 0; root < 6; root++) {
            s.due("place(" + root + ")", x.place(root), 16 + root);
            s.due("value(" + root + ")", x.value(root), root);
        }
        s.due("healed()", x.healed(), 12);
        s.due("moved()", x.moved(), 6);
    }

    // Steps when relocating

    private static void leastPageOfSet(Sentences s) {
        // b (0) and c (16) are alone alive in the pages 0 and 1; h (32) in page 2 holds c, then b.
        ColouredHeap x = new ColouredHeap(16);
        for (int root = 1; root <= 2; root++) {
            x.make(root, 0, 100 + root);
            for (int n : new int[] {3, 3, 3, 2}) {
                x.make(3, n, 0);
            }
        }
        x.make(0, 2, 0);
        x.store(0, 0, 2);
        x.store(0, 1, 1);
        x.drop(1);
        x.drop(2);
        x.drop(3);
        x.collect(1 + 3 + 1);
        for (int page = 0; page < 3; page++) {
            s.due("page(" + page + ", 0), all three in the set", x.page(page, 0), 4);
        }
        s.due("collect(1)", x.collect(1), 2);
        s.due("page(0, 0)", x.page(0, 0), 0);
        s.due("page(1, 0)", x.page(1, 0), 4);
        s.due("page(2, 0)", x.page(2, 0), 4);
        s.due("collect(1)", x.collect(1), 2);
        s.due("page(1, 0)", x.page(1, 0), 0);
        s.due("page(2, 0)", x.page(2, 0), 4);
        s.due("collect(1)", x.collect(1), 2);
        s.due("page(2, 0)", x.page(2, 0), 0);
        x.load(1, 0, 1);
        x.load(2, 0, 0);
        s.due("place(1), b", x.place(1), 51);
        s.due("place(2), c", x.place(2), 52);
    }

    private static void leastPlaceIsMoved(Sentences s) {
        // h's fields hold the objects at 2, 1, 0, so neither marking nor the fields have that order.
        ColouredHeap x = new ColouredHeap(16);
        for (int root = 1; root <= 3; root++) {
            x.make(root, 0, 100 + root);
        }
        x.make(0, 3, 0);
        for (int f = 0; f < 3; f++) {
            x.store(0, f, 3 - f);
            x.drop(3 - f);
        }
        x.collect(1 + 4 + 1);
        s.due("place(0)", x.place(0), 16);
        for (int left = 2; left >= 0; left--) {
            x.collect(1);
            s.due("page(0, 2), one moved", x.page(0, 2), left);
            s.due("moved()", x.moved(), 4 - left);
        }
        for (int f = 0; f < 3; f++) {
            x.load(1, 0, f);
            s.due("place(1) of field " + f, x.place(1), 22 - f);
            s.due("value(1) of field " + f, x.value(1), 103 - f);
        }
    }

    private static void noRoomForStep(Sentences s) {
        ColouredHeap x = Heaps.full(false);
        s.due("collect(32)", x.collect(32), 2);
        s.due("page(0, 0)", x.page(0, 0), 4);
        int healed = x.healed();
        s.due("collect(1)", x.collect(1), 2);
        s.due("page(0, 0), left", x.page(0, 0), 1);
        s.due("page(0, 2), a and b", x.page(0, 2), 2);
        s.due("page(0, 4)", x.page(0, 4), 0);
        s.due("moved()", x.moved(), 0);
        s.due("healed()", x.healed(), healed);
        s.due("collect(1)", x.collect(1), 0);
        x.load(3, 1, 1);
        s.due("place(3)", x.place(3), 0);
        s.due("value(3)", x.value(3), 101);
    }

    private static void lastMoveFreesPage(Sentences s) {
        ColouredHeap x = Heaps.chain(16);
        x.collect(5);
        s.due("collect(1)", x.collect(1), 2);
        s.due("page(0, 0), c is left", x.page(0, 0), 4);
        s.due("page(0, 2)", x.page(0, 2), 1);
        s.due("collect(1)", x.collect(1), 2);
        s.due("page(0, 0), c was the last", x.page(0, 0), 0);
        s.due("moved()", x.moved(), 3);
    }

    private static void emptiedPageIsFreed(Sentences s) {
        ColouredHeap x = Heaps.chain(16);
        x.collect(5);
        x.load(1, 0, 0);
        x.load(2, 1, 0);
        s.due("page(0, 0), loads moved all", x.page(0, 0), 4);
        s.due("page(0, 1)", x.page(0, 1), 6);
        s.due("page(0, 2)", x.page(0, 2), 0);
        s.due("moved()", x.moved(), 3);
        s.due("collect(1)", x.collect(1), 2);
        s.due("page(0, 0)", x.page(0, 0), 0);
        s.due("moved()", x.moved(), 3);
        s.due("collect(1)", x.collect(1), 0);
    }

    private static void emptySetEndsCycle(Sentences s) {
        ColouredHeap x = Heaps.chain(1);
        s.due("collect(5), no page came into the set", x.collect(5), 2);
        s.due("collect(1)", x.collect(1), 0);
        s.due("cycles()", x.cycles(), 1);

        x = Heaps.chain(16);
        s.due("collect(7), the last page of the set became free", x.collect(7), 2);
        s.due("collect(1)", x.collect(1), 0);

        x = Heaps.full(true);
        s.due("collect(32), the last page left for want of room", x.collect(32), 2);
        s.due("collect(1)", x.collect(1), 0);
    }

    private static void freePageHasNothing(Sentences s) {
        // By LIVE 0.
        ColouredHeap x = new ColouredHeap(1);
        x.make(0, 3, 0);
        x.drop(0);
        x.collect(1);
        s.due("page(0, 1)", x.page(0, 1), 4);
        s.due("page(0, 3)", x.page(0, 3), 1);
        x.collect(1);
        s.due("page(0, 0), LIVE 0", x.page(0, 0), 0);
        s.due("page(0, 1), LIVE 0", x.page(0, 1), 0);
        s.due("page(0, 3), LIVE 0", x.page(0, 3), 0);
        s.due("make(0, 0, 0), from its first word on", x.make(0, 0, 0), 0);

        // By the last move.
        x = Heaps.chain(16);
        x.collect(6);
        s.due("page(0, 1)", x.page(0, 1), 6);
        s.due("page(0, 3)", x.page(0, 3), 1);
        x.collect(1);
        s.due("page(0, 0), emptied", x.page(0, 0), 0);
        s.due("page(0, 1), emptied", x.page(0, 1), 0);
        s.due("page(0, 3), emptied", x.page(0, 3), 0);
        for (int place : new int[] {22, 26, 0}) {
            s.due("make(0, 3, 0)", x.make(0, 3, 0), place);
        }
        s.due("page(0, 3), in use again", x.page(0, 3), 0);
        s.due("page(0, 0), in use again", x.page(0, 0), 2);
    }

    private static void freePageKeepsForwardings(Sentences s) {
        ColouredHeap x = Heaps.chain(16);
        x.collect(7);
        s.due("page(0, 0)", x.page(0, 0), 0);
        s.due("page(0, 4)", x.page(0, 4), 3);
        s.due("collect(1)", x.collect(1), 0);
        s.due("page(0, 4), idle", x.page(0, 4), 3);
        x.make(1, 3, 0);
        x.make(1, 3, 0);
        s.due("make(1, 3, 0), in it", x.make(1, 3, 0), 0);
        s.due("page(0, 4), in use again", x.page(0, 4), 3);
        x.load(2, 0, 0);
        s.due("place(2), b by forwarding", x.place(2), 18);
    }

    /**
     * Relocating, no page is free, and page 7 had 4 words left. Page 0, in the set, has a (root 0,
     * place 0, 2 words, moved to 124), which holds b (2, 2 words), for which there is room, too, and
     * b holds c (4, 4 words), for which there is none.
     */
    private static ColouredHeap roomForTwoOfThree() {
        ColouredHeap x = new ColouredHeap(8);
        x.make(0, 1, 101);
        x.make(1, 1, 102);
        x.make(2, 3, 103);
        x.store(0, 0, 1);
        x.store(1, 0, 2);
        x.drop(1);
        x.drop(2);
        x.make(3, 3, 0);
        x.make(3, 3, 0);
        x.drop(3);
        for (int place = 16; place < 112; place += 4) {
            x.make(4, 3, place);
            x.store(4, 0, 3);
            x.copy(3, 4);
        }
        x.drop(4);
        x.collect(1);
        for (int place = 112; place < 124; place += 4) {
            x.make(4, 3, place);
        }
        x.collect(24 + 3 + 1);
        return x;
    }

    private static void leftPageStaysInUse(Sentences s) {
        ColouredHeap x = roomForTwoOfThree();
        s.due("place(0)", x.place(0), 124);
        x.collect(1);
        s.due("moved()", x.moved(), 2);
        s.due("page(0, 0)", x.page(0, 0), 4);
        s.due("collect(1)", x.collect(1), 2);
        s.due("page(0, 0), left", x.page(0, 0), 1);
        s.due("page(0, 1)", x.page(0, 1), 16);
        s.due("page(0, 2)", x.page(0, 2), 1);
        s.due("page(0, 3)", x.page(0, 3), 1);
        s.due("make, no page became free", x.make(5, 0, 0), FULL);
        s.due("collect(1)", x.collect(1), 0);
        s.due("page(0, 0), idle", x.page(0, 0), 1);
    }

    private static void leftPageKeepsForwardings(Sentences s) {
        ColouredHeap x = roomForTwoOfThree();
        x.collect(1);
        s.due("page(0, 4)", x.page(0, 4), 2);
        x.collect(1);
        s.due("page(0, 0), left", x.page(0, 0), 1);
        s.due("page(0, 4), left", x.page(0, 4), 2);
        s.due("collect(1)", x.collect(1), 0);
        s.due("page(0, 4), idle", x.page(0, 4), 2);
        x.load(1, 0, 0);
        s.due("place(1), b by forwarding", x.place(1), 126);
        x.load(2, 1, 0);
        s.due("place(2), c stayed", x.place(2), 4);
        s.due("value(2)", x.value(2), 103);
    }
}
