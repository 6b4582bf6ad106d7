/** Promises 13 to 18: the calls of the collector. */
public final class CollectorTest {
    private static final int NONE = -1;

    private CollectorTest() { }

    public static void main(String[] args) {
        minorOrder();
        minorTenure();
        minorOverflow();
        minorOrFull();
        minorWeak();
        minorFinal();
        minorCards();
        fullMarks();
        fullSoft();
        fullPairs();
        fullFinals();
        fullCutsPairs();
        fullSlides();
        fullYoung();
        fullResizes();
        start();
        step();
        minorAmidSteps();
        finish();
        finishLetsGo();
        tenure();
        Check.end();
    }

    private static void minorOrder() {
        Check.part("Promise 13, order");
        Tenuredale x = new Tenuredale();
        x.tenure(9);
        x.make(0, 4, 0);
        x.put(0, NONE);
        Check.due("minor()", x.minor(), 0);
        Check.due("many(4)", x.many(4), 40);
        x.make(1, 0, 12);
        Heaps.hang(x, 1, 5, 0, 0);
        x.make(2, 0, 0);
        x.swap(2, 3);
        x.make(2, 0, 0);
        x.push();
        x.make(1, 0, 1);
        Heaps.hang(x, 1, 0, 0, 0);
        x.make(0, 0, 0);
        x.make(3, 0, 0);
        x.put(3, NONE);
        Check.due("minor()", x.minor(), 1);
        int[] due = {9, 300, 11, 7, 0, 4, 13, 2};
        for (int n = 0; n < due.length; n++) {
            Check.due("address of " + n, x.ofObject(n, 1), due[n]);
        }
        Check.due("the other", x.ofObject(8, 0), 0);
        Check.due("many(3)", x.many(3), 15);
        Check.due("many(4)", x.many(4), 0);
        Check.due("TOUCHED", x.many(13), 29);
        Check.due("many(11)", x.many(11), 2);
        Check.due("AGE of the first", x.ofObject(0, 3), 2);
        Check.due("AGE of the last", x.ofObject(7, 3), 1);
        Check.due("isDirty(12)", x.isDirty(12), true);
    }

    private static void minorTenure() {
        Check.part("Promise 13, TENURE");
        Tenuredale x = new Tenuredale();
        x.make(0, 0, 1);
        x.minor();
        Check.due("place", x.ofObject(0, 0), 1);
        Heaps.hang(x, 0, 0, 0, 2);
        x.minor();
        Check.due("place", x.ofObject(0, 0), 2);
        Check.due("address", x.ofObject(0, 1), 100);
        Check.due("AGE", x.ofObject(0, 3), 2);
        Check.due("what it refers to", x.ofObject(1, 0), 1);
        Check.due("its CARD", x.isDirty(0), true);
        x.put(0, NONE);
        x.minor();
        Check.due("an OLD one stays, and what it refers to", x.ofObject(1, 0), 2);
        Check.due("AGE", x.ofObject(0, 3), 2);
        Check.due("TOUCHED", x.many(13), 7);
        Check.due("its CARD", x.isDirty(0), false);
        Check.due("minor()", x.minor(), 0);
        Check.due("TOUCHED", x.many(13), 0);
        Check.due("many(14)", x.many(14), 7);
    }

    private static void minorOverflow() {
        Check.part("Promise 13, no room in the other HALF");
        Tenuredale x = new Tenuredale();
        int[] fields = {11, 11, 10, 0};
        int[] due = {40, 54, 100, 68};
        for (int slot = 0; slot < 4; slot++) {
            x.make(slot, 0, fields[slot]);
            x.hash(slot);
        }
        Check.due("many(3)", x.many(3), 40);
        x.minor();
        for (int slot = 0; slot < 4; slot++) {
            Check.due("address of " + slot, x.ofObject(slot, 1), due[slot]);
            Check.due("SIZE of " + slot, x.ofObject(slot, 2), fields[slot] + 3);
            Check.due("AGE of " + slot, x.ofObject(slot, 3), 1);
        }
        Check.due("many(3)", x.many(3), 31);
        Check.due("TOUCHED", x.many(13), 44);

        Tenuredale y = new Tenuredale();
        for (int slot = 0; slot < 4; slot++) {
            y.make(slot, 0, 8);
        }
        y.minor();
        Check.due("the last one just fits", y.ofObject(3, 1), 70);
        Check.due("many(3)", y.many(3), 40);
    }

    private static void minorOrFull() {
        Check.part("Promise 13, or a FULL");
        Tenuredale fits = Heaps.withEightLeft(6);
        fits.minor();
        Check.due("MINORS", fits.many(11), 3);
        Check.due("FULLS", fits.many(12), 0);
        Check.due("OLD", fits.many(5), 60);
        Tenuredale wide = Heaps.withEightLeft(7);
        wide.put(0, NONE);
        wide.make(1, 2, 2);
        Heaps.hang(wide, 1, 0, 0, 0);
        Check.due("minor() counts what is GONE by the FULL", wide.minor(), 1);
        Check.due("MINORS", wide.many(11), 2);
        Check.due("FULLS", wide.many(12), 1);
        Check.due("SOFT ones are kept", wide.field(5, 0), 6);
        Tenuredale grown = Heaps.withEightLeft(6);
        grown.hash(0);
        grown.minor();
        Check.due("GROWN, if they would GROW", grown.many(12), 1);
        Check.due("place", grown.ofObject(4, 0), 1);
        Check.due("SIZE of one that does not move", grown.ofObject(4, 2), 8);
        Check.due("OLD grew", grown.many(6), 90);
    }

    private static void minorWeak() {
        Check.part("Promise 13, WEAK ones and others");
        Tenuredale x = new Tenuredale();
        x.make(0, 1, 2);
        Heaps.hang(x, 0, 0, 0, 0);
        Heaps.hang(x, 0, 1, 0, 0);
        x.make(1, 2, 1);
        Heaps.hang(x, 1, 0, 0, 0);
        x.make(2, 3, 2);
        Heaps.hang(x, 2, 0, 0, 0);
        Heaps.hang(x, 2, 1, 0, 0);
        Check.due("minor()", x.minor(), 1);
        Check.due("a REFERENT that is left", x.field(0, 0), NONE);
        Check.due("a FIELD of a WEAK one", x.field(0, 1), 2);
        Check.due("a SOFT one's", x.field(3, 0), 4);
        Check.due("a KEY", x.field(5, 0), 6);
        Check.due("a VALUE", x.field(5, 1), 7);
        x.get(0, 1, 3);
        x.set(0, 0, 3);
        x.put(3, NONE);
        x.minor();
        Check.due("a REFERENT that moved otherwise", x.field(0, 0), 2);
        Check.due("all are OLD", x.many(3), 0);
        Heaps.hang(x, 0, 0, 0, 0);
        x.put(0, NONE);
        Check.due("the CARD of a WEAK one", x.isDirty(0), true);
        Check.due("minor()", x.minor(), 1);
        Check.due("an OLD one's REFERENT, not reachable", x.field(0, 0), NONE);
        Check.due("its CARD", x.isDirty(0), false);
        x.make(0, 1, 12);
        Heaps.hang(x, 0, 0, 0, 0);
        Check.due("minor()", x.minor(), 1);
        Check.due("a LARGE one's REFERENT", x.field(9, 0), NONE);
    }

    private static void minorFinal() {
        Check.part("Promise 13, FINAL ones");
        Tenuredale x = new Tenuredale();
        x.tenure(9);
        x.make(0, 4, 1);
        x.make(1, 4, 2);
        x.set(0, 0, 1);
        int child = Heaps.hang(x, 1, 0, 0, 0);
        x.make(2, 1, 2);
        x.set(1, 1, 2);
        x.put(3, 1);
        x.get(1, 0, 1);
        x.set(2, 0, 1);
        x.put(1, 3);
        x.put(3, NONE);
        x.put(2, NONE);
        x.make(2, 1, 1);
        x.set(2, 0, 1);
        x.put(0, NONE);
        x.put(1, NONE);
        Check.due("minor()", x.minor(), 0);
        Check.due("many(10)", x.many(10), 2);
        Check.due("queue(0)", x.queue(0), 0);
        Check.due("queue(1)", x.queue(1), 1);
        Check.due("KIND", x.ofObject(0, 7), 0);
        Check.due("a WEAK one that moved ahead loses one that rises", x.field(4, 0), NONE);
        Check.due("a WEAK one that rises keeps one that rises", x.field(3, 0), child);
        Check.due("the first address", x.ofObject(4, 1), 40);
        Check.due("then FINAL ones", x.ofObject(0, 1), 43);
        Check.due("by number", x.ofObject(1, 1), 46);
        Check.due("then those to which they refer", x.ofObject(2, 1), 50);
        Check.due("then the next", x.ofObject(3, 1), 52);

        Tenuredale y = new Tenuredale();
        y.make(0, 4, 1);
        Heaps.hang(y, 0, 0, 1, 1);
        y.get(0, 0, 1);
        Heaps.hang(y, 1, 0, 0, 0);
        y.put(0, NONE);
        y.put(1, NONE);
        Check.due("minor()", y.minor(), 1);
        Check.due("(b) once more, for a WEAK one that rises", y.field(1, 0), NONE);
        Check.due("what is in the QUEUE stays", y.minor(), 0);
        y.take(0);
        y.put(0, NONE);
        Check.due("it is OLD by now", y.minor(), 0);
        Check.due("it does not rise once more", y.full(true), 2);
    }

    private static void minorCards() {
        Check.part("Promise 13, CARDS");
        Tenuredale x = new Tenuredale();
        x.tenure(1);
        x.make(0, 0, 11);
        x.make(1, 0, 11);
        x.make(2, 0, 11);
        x.minor();
        x.tenure(9);
        x.make(3, 0, 0);
        x.set(0, 0, 3);
        x.set(1, 0, 3);
        x.set(2, 0, 3);
        x.set(0, 0, NONE);
        Check.due("ahead", x.many(9), 2);
        x.set(1, 0, NONE);
        x.minor();
        Check.due("TOUCHED: by CARDS, not by FIELDS", x.many(13), 41);
        Check.due("isDirty(0), of those at 100 and 113", x.isDirty(0), false);
        Check.due("isDirty(1), of that at 126", x.isDirty(1), true);
    }

    private static void fullMarks() {
        Check.part("Promise 14, what is MARKED");
        Tenuredale x = new Tenuredale();
        x.make(0, 0, 1);
        Heaps.hang(x, 0, 0, 0, 1);
        x.make(1, 0, 0);
        x.swap(1, 2);
        x.make(1, 4, 1);
        Heaps.hang(x, 1, 0, 0, 0);
        x.put(1, NONE);
        x.make(1, 0, 1);
        Heaps.hang(x, 1, 0, 0, 0);
        x.pin(1);
        x.put(1, NONE);
        x.push();
        x.make(0, 0, 1);
        x.make(1, 0, 1);
        x.set(0, 0, 1);
        x.set(1, 0, 0);
        x.put(0, NONE);
        x.put(1, NONE);
        Check.due("full(true): a circle is GONE", x.full(true), 2);
        Check.due("many(1)", x.many(1), 7);
        Check.due("queue(0)", x.queue(0), 3);
        Check.due("full(true): the QUEUE, GLOBALS, and what is PINNED hold", x.full(true), 0);
        x.pop();
        x.put(0, NONE);
        Check.due("full(true)", x.full(true), 2);
        Check.due("many(12)", x.many(12), 3);
        Check.due("many(11)", x.many(11), 0);
    }

    private static void fullSoft() {
        Check.part("Promise 14, WEAK and SOFT ones");
        Tenuredale x = new Tenuredale();
        x.make(0, 2, 2);
        Heaps.hang(x, 0, 0, 0, 0);
        Heaps.hang(x, 0, 1, 0, 0);
        x.make(1, 1, 2);
        Heaps.hang(x, 1, 0, 0, 0);
        Heaps.hang(x, 1, 1, 0, 0);
        Check.due("full(true)", x.full(true), 1);
        Check.due("a WEAK one's REFERENT", x.field(3, 0), NONE);
        Check.due("its FIELD", x.field(3, 1), 5);
        Check.due("a SOFT one's REFERENT", x.field(0, 0), 1);
        x.get(0, 0, 2);
        x.full(false);
        Check.due("one that is MARKED otherwise", x.field(0, 0), 1);
        x.put(2, NONE);
        Check.due("full(false)", x.full(false), 1);
        Check.due("a SOFT one's REFERENT", x.field(0, 0), NONE);
        Check.due("its FIELD", x.field(0, 1), 2);
    }

    private static void fullPairs() {
        Check.part("Promise 14, PAIRS");
        Tenuredale x = new Tenuredale();
        x.make(0, 3, 3);
        int key = Heaps.hang(x, 0, 0, 0, 1);
        int value = Heaps.hang(x, 0, 1, 0, 1);
        int third = Heaps.hang(x, 0, 2, 0, 0);
        x.get(0, 0, 1);
        x.put(2, NONE);
        Check.due("full(true), with the KEY held", x.full(true), 0);
        Check.due("KEY", x.field(0, 0), key);
        x.put(1, NONE);
        Check.due("full(true)", x.full(true), 2);
        Check.due("KEY", x.field(0, 0), NONE);
        Check.due("VALUE", x.field(0, 1), NONE);
        Check.due("the FIELD behind", x.field(0, 2), third);
        Check.due("KEY and VALUE", x.ofObject(key, 0) + x.ofObject(value, 0), 0);

        Tenuredale y = new Tenuredale();
        y.make(0, 3, 2);
        y.make(1, 3, 2);
        y.make(2, 0, 0);
        y.set(1, 0, 2);
        int link = Heaps.hang(y, 1, 1, 0, 0);
        y.get(1, 1, 3);
        y.set(0, 0, 3);
        y.put(3, NONE);
        int linked = Heaps.hang(y, 0, 1, 0, 0);
        Check.due("a VALUE that is a KEY", y.full(true), 0);
        Check.due("VALUE", y.field(0, 1), linked);
        y.put(2, NONE);
        Check.due("full(true)", y.full(true), 3);
        Check.due("the link", y.ofObject(link, 0), 0);
        Heaps.hang(y, 0, 1, 0, 0);
        Check.due("a VALUE whose KEY is NONE", y.full(true), 1);
        Check.due("VALUE", y.field(0, 1), NONE);
        Heaps.hang(y, 0, 1, 0, 1);
        y.get(0, 1, 2);
        Heaps.hang(y, 2, 0, 0, 0);
        y.get(2, 0, 1);
        y.set(0, 0, 1);
        y.put(1, NONE);
        y.put(2, NONE);
        Check.due("a KEY that only the VALUE holds", y.full(true), 3);
        Heaps.hang(y, 0, 1, 0, 1);
        y.set(0, 0, 0);
        y.get(0, 1, 1);
        int behind = Heaps.hang(y, 1, 0, 0, 0);
        y.put(1, NONE);
        Check.due("isReachable", y.isReachable(behind), true);
        Check.due("what a VALUE refers to", y.full(true), 0);
        Check.due("it is THERE", y.ofObject(behind, 0), 2);
        y.get(0, 1, 1);
        y.make(2, 3, 2);
        y.get(1, 0, 3);
        y.set(2, 0, 3);
        y.put(1, NONE);
        int last = Heaps.hang(y, 2, 1, 0, 0);
        Check.due("a KEY that a VALUE refers to", y.full(true), 0);
        Check.due("VALUE", y.field(y.at(2), 1), last);
    }

    private static void fullFinals() {
        Check.part("Promise 14, FINAL ones");
        Tenuredale x = new Tenuredale();
        x.tenure(1);
        x.make(0, 4, 12);
        x.make(1, 4, 1);
        x.minor();
        Heaps.hang(x, 1, 0, 1, 1);
        x.get(1, 0, 2);
        x.set(0, 1, 2);
        Heaps.hang(x, 0, 0, 0, 0);
        x.get(0, 0, 3);
        x.set(2, 0, 3);
        x.put(3, NONE);
        x.put(2, NONE);
        x.make(3, 1, 1);
        x.set(3, 0, 0);
        x.make(2, 4, 0);
        for (int slot = 0; slot < 3; slot++) {
            x.put(slot, NONE);
        }
        Check.due("full(true)", x.full(true), 0);
        int[] due = {0, 1, 5};
        Check.due("many(10)", x.many(10), due.length);
        for (int place = 0; place < due.length; place++) {
            Check.due("queue(" + place + ")", x.queue(place), due[place]);
            Check.due("KIND", x.ofObject(due[place], 7), 0);
        }
        Check.due("a WEAK one's REFERENT that rises", x.field(4, 0), NONE);
        Check.due("a WEAK one that rises loses one that rises, too", x.field(2, 0), NONE);
        Check.due("what rose", x.ofObject(3, 0), 2);
        for (int n = 0; n < 3; n++) {
            x.take(0);
        }
        x.put(0, NONE);
        Check.due("full(true)", x.full(true), 5);
    }

    private static void fullCutsPairs() {
        Check.part("Promise 14, PAIRS and FINAL ones");
        Tenuredale x = new Tenuredale();
        x.make(0, 3, 2);
        Heaps.hang(x, 0, 0, 0, 0);
        Heaps.hang(x, 0, 1, 0, 0);
        x.make(1, 4, 2);
        x.get(0, 0, 2);
        x.set(1, 0, 2);
        x.put(2, NONE);
        Heaps.hang(x, 1, 1, 3, 2);
        x.put(3, 1);
        x.get(1, 1, 1);
        x.get(3, 0, 2);
        x.set(1, 0, 2);
        x.put(2, 3);
        x.put(3, NONE);
        int kept = Heaps.hang(x, 1, 1, 0, 0);
        x.put(1, NONE);
        x.put(2, NONE);
        Check.due("full(true)", x.full(true), 1);
        Check.due("the KEY rose", x.ofObject(1, 0), 2);
        Check.due("the PAIR that was MARKED has none", x.field(0, 0), NONE);
        Check.due("its VALUE is GONE", x.ofObject(2, 0), 0);
        Check.due("the PAIR that rose has its KEY", x.field(4, 0), 1);
        Check.due("and its VALUE", x.field(4, 1), kept);

        Tenuredale y = new Tenuredale();
        y.make(0, 4, 1);
        Heaps.hang(y, 0, 0, 3, 2);
        y.get(0, 0, 1);
        Heaps.hang(y, 1, 0, 0, 0);
        Heaps.hang(y, 1, 1, 0, 0);
        y.put(0, NONE);
        y.put(1, NONE);
        Check.due("full(true)", y.full(true), 2);
        Check.due("(b) once more, for a PAIR that rose", y.field(1, 0), NONE);
        Check.due("VALUE", y.field(1, 1), NONE);
    }

    private static void fullSlides() {
        Check.part("Promise 14, OLD");
        Tenuredale x = new Tenuredale();
        for (int slot = 0; slot < 4; slot++) {
            x.make(slot, 0, slot);
        }
        x.full(true);
        x.hash(1);
        x.hash(3);
        x.pin(2);
        x.push();
        x.make(0, 0, 1);
        x.full(true);
        int[] ahead = {100, 102, 105, 109, 114};
        for (int n = 0; n < ahead.length; n++) {
            Check.due("address of " + n, x.ofObject(n, 1), ahead[n]);
        }
        Check.due("TOUCHED, one moved", x.many(13), 20);
        Check.due("SIZE of one that did not", x.ofObject(3, 2), 5);
        x.pop();
        x.put(0, NONE);
        Check.due("full(true)", x.full(true), 2);
        Check.due("the first one", x.ofObject(1, 1), 100);
        Check.due("GROWN", x.ofObject(1, 2), 4);
        Check.due("the PINNED one", x.ofObject(2, 1), 105);
        Check.due("behind it", x.ofObject(3, 1), 109);
        Check.due("not GROWN", x.ofObject(3, 2), 5);
        Check.due("TOP", x.many(5), 14);
        Check.due("TOUCHED", x.many(13), 17);
        x.unpin(2);
        x.put(3, NONE);
        x.full(true);
        Check.due("not PINNED any more", x.ofObject(2, 1), 104);
        Check.due("TOP", x.many(5), 8);
        x.put(1, NONE);
        x.put(2, NONE);
        x.full(true);
        Check.due("TOP without any", x.many(5), 0);
        Check.due("TOUCHED", x.many(13), 0);
    }

    private static void fullYoung() {
        Check.part("Promise 14, YOUNG");
        Tenuredale x = Heaps.withEightLeft(5);
        x.make(1, 0, 5);
        x.put(0, NONE);
        x.hash(1);
        x.minor();
        Check.due("a FULL was done", x.many(12), 1);
        Check.due("room is there as they would be then", x.ofObject(5, 0), 2);
        Check.due("GROWN", x.many(5), 60);
        Check.due("many(3)", x.many(3), 0);
        Check.due("many(4)", x.many(4), 0);
        Check.due("AGE", x.ofObject(5, 3), 0);
        Check.due("OLD grows behind that", x.many(6), 90);

        Tenuredale y = Heaps.withEightLeft(5);
        y.make(1, 0, 5);
        y.put(0, NONE);
        y.make(0, 0, 0);
        y.hash(1);
        y.full(true);
        Check.due("none moves", y.ofObject(6, 0), 1);
        Check.due("nor that", y.ofObject(5, 1), 7);
        Check.due("the TOP stays", y.many(3), 16);
        Check.due("OLD", y.many(5), 52);
        y.pop();
        y.full(true);
        Check.due("YOUNG is empty", y.many(3), 0);

        Tenuredale z = new Tenuredale();
        z.make(0, 0, 12);
        z.make(1, 0, 2);
        z.make(2, 0, 0);
        z.set(0, 0, 2);
        z.minor();
        Check.due("the HALF at 40", z.many(4), 40);
        Check.due("isDirty(12)", z.isDirty(12), true);
        z.full(true);
        Check.due("by address", z.ofObject(1, 1), 100);
        Check.due("then", z.ofObject(2, 1), 104);
        Check.due("the HALF at 0", z.many(4), 0);
        Check.due("isDirty(12)", z.isDirty(12), false);
        Check.due("TOUCHED", z.many(13), 26);
    }

    /** OLD with three of 13 words and one of some more behind them, in the SLOTS 0 to 3. */
    private static Tenuredale withOld(int fields) {
        Tenuredale x = new Tenuredale();
        for (int slot = 0; slot < 3; slot++) {
            x.make(slot, 0, 11);
        }
        x.full(true);
        x.make(3, 0, fields);
        x.full(true);
        return x;
    }

    private static void fullResizes() {
        Check.part("Promise 14, words of OLD");
        Check.due("45 of 60", withOld(4).many(6), 60);
        Tenuredale x = withOld(5);
        Check.due("46 of 60", x.many(6), 90);
        x.put(0, NONE);
        x.put(1, NONE);
        x.make(0, 0, 1);
        x.full(true);
        Check.due("23 of 90", x.many(6), 90);
        x.put(0, NONE);
        x.make(0, 0, 0);
        x.full(true);
        Check.due("22 of 90", x.many(6), 60);
        x.put(2, NONE);
        x.put(3, NONE);
        x.full(true);
        Check.due("2 of 60", x.many(6), 60);
        x.put(0, NONE);
        x.full(true);
        Check.due("0 of 60", x.many(6), 60);

        Tenuredale y = new Tenuredale();
        for (int n = 1; n <= 60; n++) {
            y.make(1, 0, 1);
            y.set(1, 0, 0);
            y.put(0, 1);
            y.full(true);
            int words = n < 16 ? 60 : n < 23 ? 90 : n < 31 ? 120 : n < 38 ? 150 : 180;
            Check.due(3 * n + " used", y.many(6), words);
        }
        Check.due("many(5)", y.many(5), 180);
        y.make(1, 0, 0);
        Check.due("pin(1)", y.pin(1), false);

        Tenuredale z = withOld(11);
        Check.due("52 of 60", z.many(6), 90);
        z.push();
        z.make(0, 0, 8);
        z.make(1, 0, 8);
        z.full(true);
        Check.due("72 of 90", z.many(6), 120);
        z.make(2, 0, 8);
        z.pop();
        z.swap(0, 0);
        z.push();
        for (int slot = 0; slot < 3; slot++) {
            z.make(slot, 0, 8);
        }
        z.full(true);
        Check.due("69 of 120", z.many(6), 120);
        z.pop();
        for (int slot = 0; slot < 4; slot++) {
            z.put(slot, NONE);
        }
        z.swap(0, 0);
        z.put(0, NONE);
        for (int slot = 0; slot < 3; slot++) {
            z.make(slot, 0, 8);
        }
        z.full(true);
        Check.due("30 of 120", z.many(6), 120);
        z.put(2, NONE);
        z.make(2, 0, 7);
        z.full(true);
        Check.due("29 of 120", z.many(6), 90);
    }

    private static void start() {
        Check.part("Promise 15");
        Tenuredale x = new Tenuredale();
        Check.due("start() of nothing", x.start(), 0);
        Check.throwsState("start()", () -> x.start());
        x.full(true);
        Check.due("a FULL ends it", x.start(), 0);
        x.finish();
        x.make(0, 4, 0);
        x.put(0, NONE);
        x.full(true);
        x.make(0, 0, 1);
        x.make(1, 0, 0);
        x.set(0, 0, 1);
        x.put(2, 1);
        x.put(1, NONE);
        x.make(1, 0, 0);
        x.swap(1, 3);
        x.make(1, 0, 0);
        x.pin(1);
        x.put(1, NONE);
        x.make(3, 0, 0);
        x.set(0, 0, 3);
        x.put(3, NONE);
        Check.due("colour ahead", x.ofObject(0, 6), NONE);
        Check.due("start()", x.start(), 5);
        int[] due = {1, 1, 1, 1, 1, 0};
        for (int n = 0; n < due.length; n++) {
            Check.due("colour of " + n, x.ofObject(n, 6), due[n]);
        }
        Check.due("many(15)", x.many(15), 5);
        long before = x.digest();
        Check.throwsState("start()", () -> x.start());
        Check.due("digest()", x.digest(), before);
        x.step(50);
        x.finish();
        Check.due("start() once more", x.start(), 5);
        Check.due("colour", x.ofObject(5, 6), 0);

        Tenuredale y = new Tenuredale();
        y.make(0, 0, 0);
        y.pin(0);
        y.put(0, NONE);
        Check.due("start() with what is PINNED alone", y.start(), 1);
    }

    private static void step() {
        Check.part("Promise 16");
        Tenuredale x = new Tenuredale();
        Check.throwsState("step(1)", () -> x.step(1));
        Check.throwsArgument("step(0)", () -> x.step(0));
        Check.throwsArgument("step(51)", () -> x.step(51));
        Check.throwsArgument("step(MIN)", () -> x.step(Integer.MIN_VALUE));
        x.make(0, 0, 2);
        int child = Heaps.hang(x, 0, 1, 0, 1);
        x.make(1, 1, 3);
        int weak = Heaps.hang(x, 1, 0, 0, 0);
        int third = Heaps.hang(x, 1, 1, 0, 4);
        x.make(2, 3, 2);
        Heaps.hang(x, 2, 0, 0, 0);
        Heaps.hang(x, 2, 1, 2, 1);
        x.start();
        Check.throwsArgument("step(0)", () -> x.step(0));
        Check.throwsArgument("step(51)", () -> x.step(51));
        Check.due("step(1)", x.step(1), 1);
        Check.due("colour", x.ofObject(0, 6), 2);
        Check.due("colour of what it refers to", x.ofObject(child, 6), 1);
        Check.due("TOUCHED", x.many(13), 4);
        Check.due("step(2)", x.step(2), 2);
        Check.due("the smallest number first", x.ofObject(child, 6), 2);
        Check.due("then", x.ofObject(2, 6), 2);
        Check.due("a REFERENT of a WEAK one", x.ofObject(weak, 6), 0);
        Check.due("another FIELD of it", x.ofObject(third, 6), 1);
        Check.due("TOUCHED", x.many(13), 5);
        Check.due("step(50), a PAIR leads to both", x.step(50), 4);
        Check.due("TOUCHED by the last one alone", x.many(13), 3);
        Check.due("many(14)", x.many(14), 6);
        Check.due("many(15)", x.many(15), 0);
        Check.due("step(1)", x.step(1), 0);
        Check.due("TOUCHED", x.many(13), 3);
    }

    private static void minorAmidSteps() {
        Check.part("Promise 16, a MINOR amid");
        Tenuredale x = new Tenuredale();
        x.make(0, 0, 0);
        x.make(1, 0, 0);
        x.make(2, 0, 1);
        Heaps.hang(x, 2, 0, 0, 0);
        x.start();
        x.step(1);
        x.put(0, NONE);
        x.put(1, NONE);
        Check.due("minor()", x.minor(), 2);
        Check.due("colour of what is GONE", x.ofObject(0, 6), NONE);
        Check.due("colour of what is GONE", x.ofObject(1, 6), NONE);
        Check.due("many(15)", x.many(15), 1);
        Check.due("colours are as they were", x.ofObject(2, 6), 1);
        Check.due("colours are as they were", x.ofObject(3, 6), 0);
        Check.due("step(9)", x.step(9), 2);
        Check.throwsState("start()", () -> x.start());
    }

    private static void finish() {
        Check.part("Promise 17");
        Tenuredale x = new Tenuredale();
        Check.throwsState("finish()", () -> x.finish());
        x.make(0, 0, 1);
        x.make(1, 0, 1);
        x.make(2, 0, 1);
        Heaps.hang(x, 2, 0, 0, 1);
        x.start();
        x.step(1);
        x.get(2, 0, 3);
        x.put(0, NONE);
        x.put(1, NONE);
        x.put(2, NONE);
        int meanwhile = x.make(0, 0, 0);
        x.put(0, NONE);
        Check.due("finish()", x.finish(), 0);
        Check.due("what was BLACK", x.ofObject(0, 0), 2);
        Check.due("what was GREY", x.ofObject(1, 0), 2);
        Check.due("what a SLOT took over", x.ofObject(3, 0), 2);
        Check.due("what was made meanwhile", x.ofObject(meanwhile, 0), 2);
        Check.due("many(12)", x.many(12), 1);
        Check.due("many(15)", x.many(15), 0);
        Check.due("TOUCHED", x.many(13), 28);
        Check.due("colour", x.ofObject(0, 6), NONE);
        Check.throwsState("finish()", () -> x.finish());
        Check.throwsState("step(1)", () -> x.step(1));
        Check.due("full(true)", x.full(true), 4);
        x.start();
        Check.due("finish() at once", x.finish(), 0);
        x.make(1, 0, 0);
        x.swap(1, 0);
        x.make(1, 4, 0);
        x.put(1, NONE);
        x.minor();
        x.start();
        x.put(3, NONE);
        x.make(2, 0, 0);
        Check.due("finish()", x.finish(), 0);
        Check.due("full(true)", x.full(true), 1);

        Tenuredale y = new Tenuredale();
        y.make(0, 0, 1);
        int taken = Heaps.hang(y, 0, 0, 0, 1);
        y.get(0, 0, 1);
        int behind = Heaps.hang(y, 1, 0, 0, 0);
        y.put(1, NONE);
        int swapped = y.make(1, 0, 0);
        y.set(0, 0, NONE);
        y.start();
        y.full(true);
        Check.due("what is GONE ahead", y.ofObject(taken, 0) + y.ofObject(behind, 0), 0);
        y.set(0, 0, 1);
        y.put(1, NONE);
        y.start();
        y.get(0, 0, 2);
        y.set(0, 0, NONE);
        Check.due("colour of what a SLOT took", y.ofObject(swapped, 6), 0);
        Check.due("finish() looks at the roots once more", y.finish(), 0);
        Check.due("what a SLOT took", y.ofObject(swapped, 0), 2);
        y.set(0, 0, 2);
        y.put(2, NONE);
        y.start();
        y.get(0, 0, 2);
        y.set(0, 0, NONE);
        y.pin(2);
        y.put(2, NONE);
        Check.due("and at what is PINNED", y.finish(), 0);
    }

    private static void finishLetsGo() {
        Check.part("Promise 17, (b) and (c)");
        Tenuredale x = new Tenuredale();
        x.make(0, 1, 1);
        Heaps.hang(x, 0, 0, 0, 0);
        x.make(1, 3, 2);
        Heaps.hang(x, 1, 1, 0, 0);
        x.make(2, 2, 1);
        Heaps.hang(x, 2, 0, 0, 0);
        x.make(3, 4, 1);
        x.push();
        x.make(0, 0, 0);
        x.pop();
        x.set(3, 0, 0);
        x.put(3, NONE);
        x.start();
        Check.due("finish()", x.finish(), 2);
        Check.due("a WEAK one's REFERENT that was WHITE", x.field(0, 0), NONE);
        Check.due("a VALUE without a KEY", x.field(2, 1), NONE);
        Check.due("it was BLACK all the same", x.ofObject(3, 0), 2);
        Check.due("a SOFT one's", x.field(4, 0), 5);
        Check.due("queue(0)", x.queue(0), 6);
        Check.due("what is GONE", x.ofObject(7, 0), 0);
        Check.due("KIND", x.ofObject(6, 7), 0);

        Tenuredale y = new Tenuredale();
        y.make(0, 4, 1);
        Heaps.hang(y, 0, 0, 2, 1);
        y.get(0, 0, 1);
        int kept = Heaps.hang(y, 1, 0, 0, 0);
        y.put(0, NONE);
        y.put(1, NONE);
        y.start();
        Check.due("finish()", y.finish(), 0);
        Check.due("a SOFT one that rises keeps its REFERENT", y.field(1, 0), kept);
    }

    private static void tenure() {
        Check.part("Promise 18");
        Tenuredale x = new Tenuredale();
        Check.due("tenure(9)", x.tenure(9), 2);
        Check.due("tenure(1)", x.tenure(1), 9);
        for (int wrong : new int[] {0, 10, NONE, Integer.MAX_VALUE, Integer.MIN_VALUE}) {
            Check.throwsArgument("tenure(" + wrong + ")", () -> x.tenure(wrong));
        }
        Check.due("tenure(3)", x.tenure(3), 1);
        x.make(0, 0, 0);
        x.minor();
        x.minor();
        Check.due("place", x.ofObject(0, 0), 1);
        Check.due("AGE", x.ofObject(0, 3), 2);
        x.tenure(2);
        Check.due("place", x.ofObject(0, 0), 1);
        x.minor();
        Check.due("place", x.ofObject(0, 0), 2);
        Check.due("AGE", x.ofObject(0, 3), 3);
    }
}
