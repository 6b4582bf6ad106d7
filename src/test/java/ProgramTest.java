/** Promises 1 to 12: a new object, and the calls of the program. */
public final class ProgramTest {
    private static final int NONE = -1;

    private ProgramTest() { }

    public static void main(String[] args) {
        newObject();
        push();
        pop();
        makeOrdinary();
        makeLarge();
        makeCollects();
        makeWithoutRoom();
        makeWrong();
        set();
        setDirties();
        setGreys();
        get();
        put();
        swap();
        hash();
        pin();
        pinWithoutRoom();
        pinWrong();
        unpin();
        take();
        Check.end();
    }

    private static void newObject() {
        Check.part("Promise 1");
        Tenuredale x = new Tenuredale();
        int[] due = {0, 0, 1, 0, 0, 0, 60, 0, 1, 0, 0, 0, 0, 0, 0, 0};
        for (int what = 0; what < due.length; what++) {
            Check.due("many(" + what + ")", x.many(what), due[what]);
        }
        for (int slot = 0; slot < 4; slot++) {
            Check.due("at(" + slot + ")", x.at(slot), NONE);
            Check.due("swap(0, " + slot + ")", x.swap(0, slot), NONE);
        }
        for (int card = 0; card < 20; card++) {
            Check.due("isDirty(" + card + ")", x.isDirty(card), false);
        }
        Check.due("meanSize()", x.meanSize(), 0.0);
        Check.due("tenure(2)", x.tenure(2), 2);
        Check.throwsState("step(1)", () -> x.step(1));
        Check.due("two heaps", new Tenuredale().make(0, 0, 0) + x.make(0, 0, 0), 0);
    }

    private static void push() {
        Check.part("Promise 2");
        Tenuredale x = new Tenuredale();
        x.make(1, 0, 0);
        for (int frames = 2; frames <= 8; frames++) {
            Check.due("push()", x.push(), frames);
            Check.due("at(1)", x.at(1), NONE);
        }
        long before = x.digest();
        Check.throwsState("push()", () -> x.push());
        Check.due("digest()", x.digest(), before);
        Check.due("many(2)", x.many(2), 8);
        x.full(true);
        Check.due("what the first FRAME has", x.ofObject(0, 0), 2);
    }

    private static void pop() {
        Check.part("Promise 3");
        Tenuredale x = new Tenuredale();
        Check.throwsState("pop()", () -> x.pop());
        x.make(2, 0, 0);
        x.push();
        x.push();
        x.make(2, 0, 0);
        Check.due("pop()", x.pop(), 2);
        Check.due("pop()", x.pop(), 1);
        Check.due("at(2)", x.at(2), 0);
        Check.throwsState("pop()", () -> x.pop());
        Check.due("full(true)", x.full(true), 1);
        Check.due("what the FRAME had", x.ofObject(1, 0), 0);
        x.push();
        x.make(3, 0, 0);
        x.pop();
        x.push();
        Check.due("at(3) of the new FRAME", x.at(3), NONE);
        x.make(0, 0, 0);
        x.pop();
        x.push();
        Check.due("at(0) of the new FRAME", x.at(0), NONE);
    }

    private static void makeOrdinary() {
        Check.part("Promise 4, ordinary");
        Tenuredale x = new Tenuredale();
        int[] kinds = {0, 4, 1, 2, 3, 0, 0};
        int[] fields = {3, 0, 1, 1, 2, 0, 11};
        int address = 0;
        for (int n = 0; n < kinds.length; n++) {
            Check.due("make", x.make(n % 4, kinds[n], fields[n]), n);
            Check.due("at", x.at(n % 4), n);
            int[] due = {1, address, 2 + fields[n], 0, NONE, 0, NONE, kinds[n]};
            for (int what = 0; what < due.length; what++) {
                Check.due("ofObject(" + n + ", " + what + ")", x.ofObject(n, what), due[what]);
            }
            for (int field = 0; field < fields[n]; field++) {
                Check.due("field", x.field(n, field), NONE);
            }
            address += 2 + fields[n];
        }
        Check.due("many(3)", x.many(3), address);
        Check.due("make(0, 0, 3) that just fits", x.make(0, 0, 3), 7);
        Check.due("many(3)", x.many(3), address + 5);
        x.start();
        x.make(0, 0, 0);
        Check.due("colour of what is made meanwhile", x.ofObject(8, 6), 2);
        Check.due("many(15)", x.many(15), 4);
    }

    private static void makeLarge() {
        Check.part("Promise 4, LARGE");
        Tenuredale x = new Tenuredale();
        x.make(0, 0, 12);
        x.make(1, 1, 12);
        x.make(2, 0, 20);
        Check.due("place", x.ofObject(0, 0), 3);
        Check.due("address", x.ofObject(0, 1), 300);
        Check.due("address", x.ofObject(1, 1), 314);
        Check.due("address", x.ofObject(2, 1), 328);
        Check.due("many(3)", x.many(3), 0);
        x.put(0, NONE);
        x.full(true);
        Check.due("a gap too small", x.ofObject(x.make(0, 0, 13), 1), 350);
        Check.due("a gap just great enough", x.ofObject(x.make(3, 0, 12), 1), 300);
        Check.due("many(8)", x.many(8), 1);
        x.minor();
        Check.due("it does not move", x.ofObject(2, 1), 328);
        Check.due("nor ages", x.ofObject(2, 3), 0);
    }

    private static void makeCollects() {
        Check.part("Promise 4, as there is no room");
        Tenuredale x = new Tenuredale();
        x.make(0, 0, 11);
        x.make(0, 0, 11);
        x.make(0, 0, 11);
        Check.due("make by a MINOR", x.make(1, 0, 0), 3);
        Check.due("address", x.ofObject(3, 1), 53);
        Check.due("what the SLOT had moved", x.ofObject(2, 1), 40);
        Check.due("many(1)", x.many(1), 2);
        Check.due("many(11)", x.many(11), 1);
        Check.due("many(12)", x.many(12), 0);

        Tenuredale y = new Tenuredale();
        y.make(0, 0, 11);
        y.make(1, 0, 11);
        y.make(2, 0, 11);
        Check.due("make by a MINOR and a FULL", y.make(3, 0, 0), 3);
        Check.due("address", y.ofObject(3, 1), 0);
        Check.due("OLD", y.many(5), 39);
        Check.due("many(11)", y.many(11), 1);
        Check.due("many(12)", y.many(12), 1);
    }

    private static void makeWithoutRoom() {
        Check.part("Promise 4, not made");
        Tenuredale x = new Tenuredale();
        x.make(0, 2, 1);
        x.make(1, 0, 20);
        x.set(0, 0, 1);
        for (int global = 0; global < 4; global++) {
            x.make(1, 0, 20);
            x.swap(1, global);
        }
        Check.due("many(7)", x.many(7), 110);
        Check.due("make by a FULL with SOFT ones not kept", x.make(1, 0, 20), 6);
        Check.due("its address", x.ofObject(6, 1), 300);
        Check.due("many(11)", x.many(11), 0);
        Check.due("many(12)", x.many(12), 2);
        Check.due("make", x.make(1, 0, 12), NONE);
        Check.due("at(1)", x.at(1), 6);
        Check.due("many(0)", x.many(0), 7);
        Check.due("many(12)", x.many(12), 4);
        Check.due("many(11)", x.many(11), 0);

        Tenuredale y = new Tenuredale();
        int made = 0;
        for (; made < 199 && y.make(1, 0, 1) != NONE; made++) {
            y.set(1, 0, 0);
            y.put(0, 1);
        }
        Check.due("a chain that fills the HALF when OLD can't take it", made, 26);
        Check.due("used of OLD", y.many(5), 39);
        Check.due("used of the HALF", y.many(3), 39);
        Check.due("at(1)", y.at(1), 25);
        Check.due("make of 0 FIELDS", y.make(1, 0, 0), NONE);
        Check.due("a LARGE one", y.make(1, 0, 12), 26);
    }

    private static void makeWrong() {
        Check.part("Promise 4, wrong");
        Tenuredale x = new Tenuredale();
        long before = x.digest();
        for (int slot : new int[] {NONE, 4, Integer.MIN_VALUE, Integer.MAX_VALUE}) {
            Check.throwsIndex("make(" + slot + ", 0, 0)", () -> x.make(slot, 0, 0));
            Check.throwsIndex("make(" + slot + ", 9, 0)", () -> x.make(slot, 9, 0));
        }
        int[][] wrong = {
            {NONE, 3}, {5, 3}, {0, NONE}, {0, 21}, {1, 0}, {2, 0}, {3, 0}, {3, 1}, {4, 21}, {4, NONE},
            {Integer.MAX_VALUE, 0}, {0, Integer.MAX_VALUE}, {3, Integer.MIN_VALUE}};
        for (int[] w : wrong) {
            Check.throwsArgument("make(0, " + w[0] + ", " + w[1] + ")", () -> x.make(0, w[0], w[1]));
        }
        Check.due("digest()", x.digest(), before);
        for (int n = 0; n < 200; n++) {
            Check.due("make", x.make(0, 0, n % 12), n);
        }
        Check.throwsState("make(0, 0, 0)", () -> x.make(0, 0, 0));
        Check.throwsArgument("make(0, 1, 0)", () -> x.make(0, 1, 0));
        Check.throwsIndex("make(4, 0, 0)", () -> x.make(4, 0, 0));
        Check.due("many(0)", x.many(0), 200);
    }

    private static void set() {
        Check.part("Promise 5");
        Tenuredale x = new Tenuredale();
        x.make(0, 0, 2);
        x.make(1, 0, 0);
        Check.due("set(0, 0, 1)", x.set(0, 0, 1), NONE);
        Check.due("field(0, 0)", x.field(0, 0), 1);
        Check.due("field(0, 1)", x.field(0, 1), NONE);
        Check.due("set(0, 0, 0)", x.set(0, 0, 0), 1);
        Check.due("set(0, 0, 3), a SLOT that is NONE", x.set(0, 0, 3), 0);
        Check.due("field(0, 0)", x.field(0, 0), NONE);
        Check.due("set(0, 1, 1)", x.set(0, 1, 1), NONE);
        Check.due("set(0, 1, NONE)", x.set(0, 1, NONE), 1);
        Check.due("field(0, 1)", x.field(0, 1), NONE);
        long before = x.digest();
        Check.throwsIndex("set(4, 0, 0)", () -> x.set(4, 0, 0));
        Check.throwsIndex("set(-1, 0, 0)", () -> x.set(-1, 0, 0));
        Check.throwsIndex("set(0, 0, 4)", () -> x.set(0, 0, 4));
        Check.throwsIndex("set(0, 0, -2)", () -> x.set(0, 0, -2));
        Check.throwsIndex("set(0, 2, 1)", () -> x.set(0, 2, 1));
        Check.throwsIndex("set(0, -1, 1)", () -> x.set(0, -1, 1));
        Check.throwsIndex("set(1, 0, 1)", () -> x.set(1, 0, 1));
        Check.throwsIndex("set(0, MIN, 1)", () -> x.set(0, Integer.MIN_VALUE, 1));
        Check.throwsState("set(2, 0, 1)", () -> x.set(2, 0, 1));
        Check.throwsIndex("set(2, 0, 4)", () -> x.set(2, 0, 4));
        Check.due("digest()", x.digest(), before);
    }

    private static void setDirties() {
        Check.part("Promise 5, CARDS");
        Tenuredale x = new Tenuredale();
        x.tenure(1);
        x.make(0, 0, 2);
        x.make(1, 0, 11);
        x.make(2, 0, 1);
        x.minor();
        x.set(2, 0, 0);
        Check.due("an OLD one written", x.many(9), 0);
        x.make(3, 0, 1);
        x.set(3, 0, 3);
        x.set(3, 0, 0);
        Check.due("a YOUNG one's FIELD written", x.many(9), 0);
        x.set(2, 0, 3);
        Check.due("isDirty(1) by the OBJECT at 117", x.isDirty(1), true);
        Check.due("many(9)", x.many(9), 1);
        x.set(1, 10, 3);
        Check.due("isDirty(0) by the OBJECT at 104, whose FIELD lies behind 116", x.isDirty(0), true);
        x.set(2, 0, NONE);
        Check.due("it stays DIRTY", x.isDirty(1), true);
        x.put(1, NONE);
        x.make(1, 1, 12);
        x.set(1, 0, 3);
        Check.due("isDirty(12) by a REFERENT of a LARGE one", x.isDirty(12), true);
        Check.due("many(9)", x.many(9), 3);
    }

    private static void setGreys() {
        Check.part("Promise 5, colours");
        Tenuredale x = new Tenuredale();
        x.make(0, 1, 2);
        x.make(1, 0, 2);
        x.make(2, 0, 0);
        x.set(1, 0, 2);
        x.make(2, 0, 0);
        x.set(1, 1, 2);
        x.put(2, NONE);
        x.start();
        x.step(1);
        x.get(1, 0, 2);
        x.get(1, 1, 3);
        x.set(1, 0, 2);
        Check.due("by a GREY one", x.ofObject(2, 6), 0);
        x.set(0, 1, NONE);
        x.set(0, 0, 2);
        Check.due("by a BLACK one's REFERENT", x.ofObject(2, 6), 1);
        x.set(0, 1, 3);
        Check.due("by a BLACK one's FIELD", x.ofObject(3, 6), 1);
        x.step(50);
        x.set(0, 0, 2);
        Check.due("a BLACK one stays so", x.ofObject(2, 6), 2);
    }

    private static void get() {
        Check.part("Promise 6");
        Tenuredale x = new Tenuredale();
        x.make(0, 0, 2);
        x.make(1, 0, 0);
        x.set(0, 1, 1);
        Check.due("get(0, 1, 3)", x.get(0, 1, 3), 1);
        Check.due("at(3)", x.at(3), 1);
        Check.due("get(0, 0, 3)", x.get(0, 0, 3), NONE);
        Check.due("at(3)", x.at(3), NONE);
        long before = x.digest();
        Check.throwsIndex("get(4, 0, 0)", () -> x.get(4, 0, 0));
        Check.throwsIndex("get(0, 0, 4)", () -> x.get(0, 0, 4));
        Check.throwsIndex("get(0, 0, -1)", () -> x.get(0, 0, -1));
        Check.throwsIndex("get(-1, 0, 0)", () -> x.get(-1, 0, 0));
        Check.throwsIndex("get(0, 2, 0)", () -> x.get(0, 2, 0));
        Check.throwsIndex("get(0, -1, 0)", () -> x.get(0, -1, 0));
        Check.throwsState("get(2, 0, 0)", () -> x.get(2, 0, 0));
        Check.throwsIndex("get(2, 0, 4)", () -> x.get(2, 0, 4));
        Check.due("digest()", x.digest(), before);
        Check.due("get(0, 1, 0)", x.get(0, 1, 0), 1);
        Check.due("at(0)", x.at(0), 1);
    }

    private static void put() {
        Check.part("Promise 7");
        Tenuredale x = new Tenuredale();
        x.make(0, 0, 0);
        x.make(1, 0, 0);
        Check.due("put(2, 0)", x.put(2, 0), NONE);
        Check.due("at(2)", x.at(2), 0);
        Check.due("put(2, 1)", x.put(2, 1), 0);
        Check.due("put(2, 2)", x.put(2, 2), 1);
        Check.due("put(2, 3)", x.put(2, 3), 1);
        Check.due("at(2)", x.at(2), NONE);
        Check.due("put(0, NONE)", x.put(0, NONE), 0);
        Check.due("at(0)", x.at(0), NONE);
        Check.throwsIndex("put(4, 0)", () -> x.put(4, 0));
        Check.throwsIndex("put(-1, 0)", () -> x.put(-1, 0));
        Check.throwsIndex("put(0, 4)", () -> x.put(0, 4));
        Check.throwsIndex("put(0, -2)", () -> x.put(0, -2));
    }

    private static void swap() {
        Check.part("Promise 8");
        Tenuredale x = new Tenuredale();
        x.make(0, 0, 0);
        x.make(3, 0, 0);
        Check.due("swap(0, 3)", x.swap(0, 3), NONE);
        Check.due("at(0)", x.at(0), NONE);
        Check.due("swap(3, 3)", x.swap(3, 3), 0);
        Check.due("at(3)", x.at(3), 0);
        x.push();
        Check.due("swap(1, 3) in another FRAME", x.swap(1, 3), 1);
        Check.due("at(1)", x.at(1), 1);
        Check.throwsIndex("swap(4, 0)", () -> x.swap(4, 0));
        Check.throwsIndex("swap(-1, 0)", () -> x.swap(-1, 0));
        Check.throwsIndex("swap(0, 4)", () -> x.swap(0, 4));
        Check.throwsIndex("swap(0, -1)", () -> x.swap(0, -1));
    }

    private static void hash() {
        Check.part("Promise 9");
        Tenuredale x = new Tenuredale();
        x.make(0, 0, 1);
        x.make(1, 0, 2);
        x.make(2, 0, 12);
        Check.due("hash(1)", x.hash(1), 0);
        Check.due("hash(0)", x.hash(0), 1);
        Check.due("hash(1)", x.hash(1), 0);
        Check.due("hash(2)", x.hash(2), 2);
        Check.due("SIZE ahead of a move", x.ofObject(1, 2), 4);
        x.minor();
        Check.due("SIZE behind it", x.ofObject(1, 2), 5);
        Check.due("the next one's address", x.ofObject(1, 1), 44);
        x.minor();
        Check.due("SIZE behind two", x.ofObject(1, 2), 5);
        Check.due("HASH", x.hash(1), 0);
        Check.due("SIZE of a LARGE one", x.ofObject(2, 2), 14);
        Check.throwsIndex("hash(4)", () -> x.hash(4));
        Check.throwsIndex("hash(-1)", () -> x.hash(-1));
        Check.throwsState("hash(3)", () -> x.hash(3));

        Tenuredale y = new Tenuredale();
        y.make(0, 0, 1);
        y.make(1, 0, 1);
        y.full(true);
        y.hash(1);
        Check.due("SIZE, moved ahead of its HASH", y.ofObject(1, 2), 3);
        y.full(true);
        Check.due("SIZE, not moved", y.ofObject(1, 2), 3);
        y.put(0, NONE);
        y.full(true);
        Check.due("SIZE, slid", y.ofObject(1, 2), 4);
        Check.due("OLD", y.many(5), 4);
        Check.due("TOUCHED", y.many(13), 8);
    }

    private static void pin() {
        Check.part("Promise 10");
        Tenuredale x = new Tenuredale();
        x.make(0, 0, 1);
        x.make(1, 0, 1);
        x.make(2, 0, 0);
        x.set(1, 0, 2);
        Check.due("pin(0)", x.pin(0), true);
        Check.due("place", x.ofObject(0, 0), 2);
        Check.due("address", x.ofObject(0, 1), 100);
        Check.due("AGE", x.ofObject(0, 3), 0);
        Check.due("PINNED", x.ofObject(0, 5), 1);
        Check.due("its CARD", x.isDirty(0), false);
        Check.due("TOP of the HALF", x.many(3), 8);
        Check.due("what was TOUCHED", x.many(13), 0);
        x.hash(1);
        Check.due("pin(1)", x.pin(1), true);
        Check.due("address", x.ofObject(1, 1), 103);
        Check.due("SIZE", x.ofObject(1, 2), 4);
        Check.due("its CARD", x.isDirty(0), true);
        Check.due("OLD", x.many(5), 7);
        x.make(3, 0, 12);
        Check.due("pin(3)", x.pin(3), true);
        Check.due("a LARGE one's place", x.ofObject(3, 1), 300);
        x.put(0, NONE);
        x.put(1, NONE);
        x.put(3, NONE);
        Check.due("full(false)", x.full(false), 0);
        Check.due("pin(2) of an OLD one", x.pin(2), true);
        Check.due("it stays", x.ofObject(2, 1), 107);
        x.put(2, NONE);
        x.full(false);
        Check.due("it does not move", x.ofObject(2, 1), 107);
    }

    private static void pinWithoutRoom() {
        Check.part("Promise 10, room");
        Tenuredale fits = Heaps.withEightLeft(6);
        Check.due("pin(0) that just fits", fits.pin(0), true);
        Check.due("OLD", fits.many(5), 60);
        Tenuredale wide = Heaps.withEightLeft(7);
        long before = wide.digest();
        Check.due("pin(0) without room", wide.pin(0), false);
        Check.due("digest()", wide.digest(), before);
        Tenuredale grown = Heaps.withEightLeft(6);
        grown.hash(0);
        before = grown.digest();
        Check.due("pin(0) without room, as it would be then", grown.pin(0), false);
        Check.due("digest()", grown.digest(), before);
        Tenuredale self = Heaps.withEightLeft(6);
        self.set(0, 0, 0);
        self.pin(0);
        Check.due("a FIELD with itself is none with a YOUNG one", self.many(9), 0);
    }

    private static void pinWrong() {
        Check.part("Promise 10, wrong");
        Tenuredale x = Heaps.withEightLeft(9);
        x.pop();
        for (int slot = 0; slot < 4; slot++) {
            Check.due("pin", x.pin(slot), true);
        }
        Check.due("pin(3) once more", x.pin(3), true);
        x.push();
        x.make(0, 0, 9);
        Check.throwsState("pin(0) with 4 others, and without room", () -> x.pin(0));
        Check.throwsState("pin(1)", () -> x.pin(1));
        Check.throwsIndex("pin(4)", () -> x.pin(4));
        Check.throwsIndex("pin(-1)", () -> x.pin(-1));
        Check.due("place", x.ofObject(5, 0), 1);
    }

    private static void unpin() {
        Check.part("Promise 11");
        Tenuredale x = new Tenuredale();
        x.make(0, 0, 0);
        x.make(1, 0, 0);
        x.pin(1);
        Check.due("unpin(0)", x.unpin(0), false);
        Check.due("unpin(1)", x.unpin(1), true);
        Check.due("unpin(1)", x.unpin(1), false);
        Check.due("PINNED", x.ofObject(1, 5), 0);
        x.put(1, NONE);
        Check.due("full(true)", x.full(true), 1);
        Check.throwsState("unpin(1)", () -> x.unpin(1));
        Check.throwsIndex("unpin(4)", () -> x.unpin(4));
        Check.throwsIndex("unpin(-1)", () -> x.unpin(-1));
    }

    private static void take() {
        Check.part("Promise 12");
        Tenuredale x = new Tenuredale();
        Check.due("take(2)", x.take(2), NONE);
        for (int n = 0; n < 3; n++) {
            x.make(1, 4, n);
        }
        x.put(1, NONE);
        x.minor();
        Check.due("many(10)", x.many(10), 3);
        Check.due("take(2)", x.take(2), 0);
        Check.due("at(2)", x.at(2), 0);
        Check.due("queue(0)", x.queue(0), 1);
        Check.throwsIndex("take(4)", () -> x.take(4));
        Check.throwsIndex("take(-1)", () -> x.take(-1));
        Check.due("take(3)", x.take(3), 1);
        Check.due("take(2)", x.take(2), 2);
        Check.due("take(2)", x.take(2), NONE);
        Check.due("at(2)", x.at(2), 2);
        x.put(2, NONE);
        Check.due("what rose once is GONE", x.full(true), 2);
        Check.due("what was taken first was let go by the SLOT", x.ofObject(0, 0), 0);
    }
}
