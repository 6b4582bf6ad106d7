import java.util.function.Supplier;

/** Promises 1 to 12 at their boundaries; each test names the sentence that it holds. */
public final class ProgramBoundsTest {
    private static final int NONE = -1;
    private static final int MIN = Integer.MIN_VALUE;
    private static final int MAX = Integer.MAX_VALUE;
    private static final int[] NO_SLOTS = {NONE, 4, MIN, MAX};
    private static final int[] NO_SLOTS_NOR_NONE = {-2, 4, MIN, MAX};

    private ProgramBoundsTest() { }

    public static void main(String[] args) {
        newObject();
        push();
        pop();
        makeRefuses();
        makeAtTheLeastAndTheMost();
        makeInTheHalf();
        makeInLarge();
        makeCollects();
        makeWithoutRoom();
        makeAmidMarking();
        setRefuses();
        setNone();
        setOnCards();
        setAmidMarking();
        get();
        put();
        swap();
        hash();
        hashGrows();
        pinRefuses();
        pinFour();
        pinRoom();
        pinOnCards();
        pinAmidMarking();
        unpin();
        take();
        Bound.end(1, 12);
    }

    private static void place(Tenuredale x, int object, int place, int address) {
        Check.due("where " + object + " is", x.ofObject(object, 0), place);
        Check.due("address of " + object, x.ofObject(object, 1), address);
    }

    // ---- Promise 1

    private static void newObject() {
        Bound.of(1, "Creates a heap without OBJECTS, with one FRAME.");
        Tenuredale x = new Tenuredale();
        int[] due = {0, 0, 1, 0, 0, 0, 60, 0, 1, 0, 0, 0, 0, 0, 0, 0};
        for (int what = 0; what < due.length; what++) {
            Check.due("many(" + what + ")", x.many(what), due[what]);
        }
        Check.due("wouldFree(true)", x.wouldFree(true), 0);
        Check.due("wouldFree(false)", x.wouldFree(false), 0);
        Bound.state("pop()", Tenuredale::new, y -> y.pop());
        Bound.index("ofObject(0, 0)", Tenuredale::new, y -> y.ofObject(0, 0));
        Bound.index("queue(0)", Tenuredale::new, y -> y.queue(0));

        Bound.of(1, "each refers to an OBJECT, or is NONE (at first)");
        for (int slot = 0; slot < 4; slot++) {
            Check.due("at(" + slot + ")", x.at(slot), NONE);
            Check.due("swap(" + slot + ", " + slot + ")", x.swap(slot, slot), NONE);
        }

        Bound.of(1, "2 at first");
        Check.due("tenure(1)", new Tenuredale().tenure(1), 2);

        Bound.of(1, "the number of those that were given ahead", "none");
        x.make(0, 0, 0);
        Check.due("hash(0)", x.hash(0), 0);

        Bound.of(1, "one of them is in use (that at 0, at first)");
        place(x, 0, 1, 0);
        Check.due("many(4)", new Tenuredale().many(4), 0);

        Bound.of(1, "Marking in steps has an end.", "it is not begun");
        Check.due("colour", x.ofObject(0, 6), NONE);
        Bound.state("step(1)", Tenuredale::new, y -> y.step(1));
        Bound.state("finish()", Tenuredale::new, y -> y.finish());
    }

    // ---- Promises 2 and 3

    private static void push() {
        Bound.of(2, "Throws `IllegalStateException` if there are 8");
        Bound.state("push()", () -> Heaps.richWithFrames(8), x -> x.push());
        Tenuredale eight = Heaps.richWithFrames(8);
        Check.throwsState("push()", () -> eight.push());
        Check.due("pop()", eight.pop(), 7);
        Check.due("push() once more", eight.push(), 8);
        Check.throwsState("push()", () -> eight.push());

        Bound.of(2, "1 to 8 FRAMES");
        Tenuredale x = new Tenuredale();
        for (int frames = 2; frames <= 8; frames++) {
            Check.due("push()", x.push(), frames);
        }
        Check.due("many(2)", x.many(2), 8);

        Bound.of(2, "each refers to an OBJECT, or is NONE (at first)");
        Tenuredale y = new Tenuredale();
        for (int frames = 2; frames <= 8; frames++) {
            for (int slot = 0; slot < 4; slot++) {
                y.make(slot, 0, 0);
            }
            y.push();
            for (int slot = 0; slot < 4; slot++) {
                Check.due("at(" + slot + ") of FRAME " + frames, y.at(slot), NONE);
                y.make(slot, 0, 0);
            }
            y.pop();
            y.push();
            for (int slot = 0; slot < 4; slot++) {
                Check.due("at(" + slot + ") of FRAME " + frames + " once more", y.at(slot), NONE);
            }
        }

        Bound.of(2, "but what FRAMES, GLOBALS and the QUEUE refer to, and what is PINNED, is GREY (1)", "a new FRAME");
        Tenuredale z = Heaps.rich();
        int greys = z.many(15);
        z.push();
        Check.due("many(15)", z.many(15), greys);
        Check.due("many(2)", z.many(2), 3);
    }

    private static void pop() {
        Bound.of(3, "Throws `IllegalStateException` if it is the only one");
        Bound.state("pop()", () -> Heaps.richWithFrames(1), x -> x.pop());

        Bound.of(3, "1 to 8 FRAMES");
        Tenuredale x = Heaps.richWithFrames(8);
        for (int frames = 7; frames >= 1; frames--) {
            Check.due("pop()", x.pop(), frames);
        }
        Check.due("at(1) of the first one", x.at(1), 3);
        Check.throwsState("pop()", () -> x.pop());

        Bound.of(3, "What is not MARKED is GONE.", "what only the FRAME that was taken away referred to");
        Tenuredale y = new Tenuredale();
        y.make(0, 0, 0);
        y.push();
        for (int slot = 0; slot < 4; slot++) {
            y.make(slot, 0, 0);
        }
        y.pop();
        Check.due("full(true)", y.full(true), 4);
        Check.due("at(0)", y.at(0), 0);
        Check.due("many(1)", y.many(1), 1);

        Bound.of(3, "As a FIELD (a REFERENT, too) of a BLACK one is written with a WHITE one, that becomes GREY.",
            "a FRAME that is taken away changes no colour");
        Tenuredale z = new Tenuredale();
        z.push();
        z.make(0, 0, 0);
        z.start();
        z.pop();
        Check.due("colour", z.ofObject(0, 6), 1);
        Check.due("step(50)", z.step(50), 1);
        Check.due("finish()", z.finish(), 0);
    }

    // ---- Promise 4

    private static void makeRefuses() {
        Bound.of(4, "Throws `IndexOutOfBoundsException` if there is no such SLOT");
        for (int slot : NO_SLOTS) {
            Bound.index("make(" + slot + ", 0, 3)", Heaps::rich, x -> x.make(slot, 0, 3));
        }
        Bound.of(4, "kind is not 0 to 4");
        for (int kind : new int[] {NONE, 5, MIN, MAX}) {
            Bound.argument("make(0, " + kind + ", 3)", Heaps::rich, x -> x.make(0, kind, 3));
        }
        Bound.of(4, "fields is not 0 to 20");
        for (int fields : new int[] {NONE, 21, MIN, MAX}) {
            for (int kind = 0; kind <= 4; kind++) {
                int one = kind;
                Bound.argument("make(1, " + kind + ", " + fields + ")", Heaps::rich, x -> x.make(1, one, fields));
            }
        }
        Bound.of(4, "or too few for that KIND");
        Bound.argument("make(1, 1, 0)", Heaps::rich, x -> x.make(1, 1, 0));
        Bound.argument("make(1, 2, 0)", Heaps::rich, x -> x.make(1, 2, 0));
        Bound.argument("make(1, 3, 0)", Heaps::rich, x -> x.make(1, 3, 0));
        Bound.argument("make(1, 3, 1)", Heaps::rich, x -> x.make(1, 3, 1));

        Bound.of(4, "Throws `IllegalStateException` if 200 were made");
        Bound.state("make(0, 0, 0)", Heaps::withAllMade, x -> x.make(0, 0, 0));
        Bound.state("make(3, 4, 20)", Heaps::withAllMade, x -> x.make(3, 4, 20));
        Tenuredale last = new Tenuredale();
        for (int n = 0; n < 199; n++) {
            last.make(1, 0, 0);
        }
        Check.due("the 200th", last.make(1, 0, 0), 199);
        Check.throwsState("the 201st", () -> last.make(1, 0, 0));
        Check.due("many(0)", last.many(0), 200);

        Bound.of(4, "Throws `IllegalStateException` if 200 were made", "one that was not made is none of them");
        Tenuredale unmade = withHeldHalf(40);
        Check.due("make(1, 0, 0)", unmade.make(1, 0, 0), NONE);
        int made = unmade.many(0);
        unmade.pop();
        unmade.push();
        for (; made < 200; made++) {
            Check.due("make(1, 0, 0)", unmade.make(1, 0, 0), made);
        }
        Check.throwsState("make(1, 0, 0)", () -> unmade.make(1, 0, 0));

        Bound.of(4, "If several exceptions apply, the one that is named first is thrown.");
        Bound.index("make(4, 5, 3), no SLOT, no KIND", Heaps::rich, x -> x.make(4, 5, 3));
        Bound.index("make(-1, 3, 1), no SLOT, too few", Heaps::rich, x -> x.make(-1, 3, 1));
        Bound.index("make(4, 5, 21), no SLOT, no KIND, 200", Heaps::withAllMade, x -> x.make(4, 5, 21));
        Bound.index("make(4, 0, 0), no SLOT, 200", Heaps::withAllMade, x -> x.make(4, 0, 0));
        Bound.argument("make(0, 5, 0), no KIND, 200", Heaps::withAllMade, x -> x.make(0, 5, 0));
        Bound.argument("make(0, 0, 21), too many, 200", Heaps::withAllMade, x -> x.make(0, 0, 21));
        Bound.argument("make(0, 1, 0), too few, 200", Heaps::withAllMade, x -> x.make(0, 1, 0));
    }

    private static void makeAtTheLeastAndTheMost() {
        Bound.of(4, "and 0 to 20 FIELDS");
        int[] least = {0, 1, 1, 2, 0};
        for (int kind = 0; kind <= 4; kind++) {
            Tenuredale x = new Tenuredale();
            Check.due("with as few as can be", x.make(3, kind, least[kind]), 0);
            Check.due("SIZE", x.ofObject(0, 2), 2 + least[kind]);
            Check.due("KIND", x.ofObject(0, 7), kind);
            Check.due("with 20", x.make(0, kind, 20), 1);
            Check.due("SIZE", x.ofObject(1, 2), 22);
            Check.due("KIND", x.ofObject(1, 7), kind);
            Check.due("field(1, 19)", x.field(1, 19), NONE);
            Check.due("at(0)", x.at(0), 1);
            Check.due("at(3)", x.at(3), 0);
        }
        Bound.of(4, "An OBJECT with 12 FIELDS or more is LARGE from the beginning on");
        for (int kind = 0; kind <= 4; kind++) {
            Tenuredale x = new Tenuredale();
            x.make(0, kind, 12);
            x.make(1, kind, 11);
            place(x, 0, 3, 300);
            place(x, 1, 1, 0);
            Check.due("many(3)", x.many(3), 13);
            Check.due("many(7)", x.many(7), 14);
        }
    }

    private static void makeInTheHalf() {
        Bound.of(4, "is filled from its beginning on, up to its TOP", "the HALF at 0 is just full");
        Tenuredale x = withHalfOf(38);
        Check.due("make(3, 0, 0)", x.make(3, 0, 0), 3);
        place(x, 3, 1, 38);
        Check.due("many(3)", x.many(3), 40);
        Check.due("many(11)", x.many(11), 0);
        Check.due("many(12)", x.many(12), 0);

        Bound.of(4, "is filled from its beginning on, up to its TOP", "the HALF at 40 is just full");
        Tenuredale y = withHalfOf(38);
        y.minor();
        Check.due("make(3, 0, 0)", y.make(3, 0, 0), 3);
        place(y, 3, 1, 78);
        Check.due("many(3)", y.many(3), 40);
        Check.due("many(11)", y.many(11), 1);

        Bound.of(4, "All others are YOUNG, with the AGE 0, at first, at the TOP of the HALF in use.",
            "a hole that a PINNED one left is not filled");
        Tenuredale z = withHalfOf(36);
        z.pin(0);
        Check.due("make(3, 0, 2)", z.make(3, 0, 2), 3);
        place(z, 3, 1, 36);
        Check.due("AGE", z.ofObject(3, 3), 0);
    }

    /** Three in the SLOTS 0 to 2, which fill so much of the HALF at 0 (28 to 39 words). */
    private static Tenuredale withHalfOf(int words) {
        Tenuredale x = new Tenuredale();
        x.make(0, 0, 11);
        x.make(1, 0, 11);
        x.make(2, 0, words - 28);
        return x;
    }

    private static void makeInLarge() {
        Bound.of(4, "LARGE: the addresses 300 to 419.", "just full");
        Tenuredale x = withLarge(5);
        Check.due("make(0, 0, 18)", x.make(0, 0, 18), 5);
        place(x, 5, 3, 400);
        Check.due("many(7)", x.many(7), 120);
        Check.due("many(8)", x.many(8), 0);
        Check.due("many(12)", x.many(12), 0);
        Bound.of(4, "LARGE: the addresses 300 to 419.", "one word too many");
        Tenuredale y = withLarge(5);
        Check.due("make(0, 0, 19)", y.make(0, 0, 19), NONE);
        Check.due("many(0)", y.many(0), 5);
        Check.due("many(7)", y.many(7), 100);

        Bound.of(4, "it lies in the first gap that is great enough", "one that is too small by a word is left");
        Tenuredale z = withGaps();
        Check.due("many(8)", z.many(8), 3);
        Check.due("make(0, 0, 13)", z.make(0, 0, 13), 4);
        place(z, 4, 3, 358);
        Bound.of(4, "it lies in the first gap that is great enough", "the first one of two that are so, just");
        z.make(2, 0, 12);
        place(z, 5, 3, 300);
        z.make(0, 0, 12);
        place(z, 6, 3, 329);
        Check.due("many(8)", z.many(8), 1);

        Bound.of(4, "it lies in the first gap that is great enough", "none, though all are together");
        Tenuredale w = withLarge(6);
        w.put(0, NONE);
        w.put(2, NONE);
        w.full(true);
        Check.due("many(8)", w.many(8), 2);
        Check.due("make(0, 0, 19)", w.make(0, 0, 19), NONE);
        Check.due("make(0, 0, 18)", w.make(0, 0, 18), 6);
        place(w, 6, 3, 340);
    }

    /** Up to 6 LARGE ones of 20 words: four in the SLOTS 0 to 3, two in the GLOBALS 0 and 1. */
    private static Tenuredale withLarge(int count) {
        Tenuredale x = new Tenuredale();
        for (int global = 0; global < count - 4; global++) {
            x.make(0, 0, 18);
            x.swap(0, global);
        }
        for (int slot = 0; slot < 4; slot++) {
            x.make(slot, 0, 18);
        }
        return x;
    }

    /** LARGE ones from 314 to 329 and from 343 to 358, in the SLOTS 1 and 3. */
    private static Tenuredale withGaps() {
        Tenuredale x = new Tenuredale();
        for (int slot = 0; slot < 4; slot++) {
            x.make(slot, 0, slot % 2 == 0 ? 12 : 13);
        }
        x.put(0, NONE);
        x.put(2, NONE);
        x.full(true);
        return x;
    }

    private static void makeCollects() {
        Bound.of(4, "if it is not LARGE, a MINOR");
        Tenuredale x = withHalfOf(38);
        x.make(3, 0, 0);
        x.put(3, NONE);
        Check.due("make(3, 0, 0)", x.make(3, 0, 0), 4);
        place(x, 4, 1, 78);
        Check.due("MINORS", x.many(11), 1);
        Check.due("FULLS", x.many(12), 0);
        Check.due("what is GONE", x.ofObject(3, 0), 0);

        Bound.of(4, "if it is not LARGE, a MINOR", "TENURE 1");
        Tenuredale t = withHalfOf(38);
        t.tenure(1);
        t.make(3, 0, 1);
        place(t, 3, 1, 40);
        Check.due("MINORS", t.many(11), 1);
        Check.due("OLD", t.many(5), 38);

        Bound.of(4, "if there is none still, a FULL with SOFT ones kept");
        Tenuredale y = withHalfOf(38);
        Check.due("make(3, 0, 1)", y.make(3, 0, 1), 3);
        place(y, 3, 1, 0);
        Check.due("MINORS", y.many(11), 1);
        Check.due("FULLS", y.many(12), 1);
        Check.due("OLD", y.many(5), 38);

        Bound.of(4, "if there is none still, a FULL with SOFT ones kept", "the MINOR was a FULL, and so made room");
        Tenuredale f = withHeldHalf(40);
        f.put(1, NONE);
        f.put(2, NONE);
        f.put(3, NONE);
        Check.due("make(3, 0, 11)", f.make(3, 0, 11), 8);
        place(f, 8, 1, 0);
        Check.due("MINORS", f.many(11), 2);
        Check.due("FULLS", f.many(12), 1);

        Bound.of(4, "if there is none still, a FULL with SOFT ones kept",
            "the MINOR was a FULL, that made OLD greater");
        Tenuredale g = withHeldHalf(38);
        Check.due("make(3, 0, 1)", g.make(3, 0, 1), 8);
        place(g, 8, 1, 0);
        Check.due("MINORS", g.many(11), 2);
        Check.due("FULLS", g.many(12), 2);
        Check.due("OLD", g.many(5), 90);
        Check.due("OLD's words", g.many(6), 120);

        Bound.of(4, "then one with SOFT ones not kept");
        Tenuredale s = Heaps.withEightLeft(6);
        s.make(1, 0, 11);
        s.make(2, 0, 11);
        s.make(3, 2, 1);
        s.set(3, 0, 2);
        s.make(2, 0, 1);
        Check.due("the HALF", s.many(3), 40);
        Check.due("make(2, 0, 0)", s.make(2, 0, 0), 9);
        place(s, 9, 1, 0);
        Check.due("the REFERENT", s.field(7, 0), NONE);
        Check.due("what is GONE", s.ofObject(6, 0), 0);
        Check.due("MINORS", s.many(11), 2);
        Check.due("FULLS", s.many(12), 3);
        Check.due("OLD", s.many(5), 79);

        Bound.of(4, "As there is no room for one that is made", "a LARGE one: no MINOR");
        Tenuredale l = withLarge(6);
        l.make(1, 0, 0);
        Check.due("make(2, 0, 18)", l.make(2, 0, 18), 7);
        place(l, 7, 3, 360);
        Check.due("MINORS", l.many(11), 0);
        Check.due("FULLS", l.many(12), 1);

        Bound.of(4, "then one with SOFT ones not kept", "a LARGE one");
        Tenuredale k = withLarge(6);
        k.make(3, 2, 1);
        k.set(3, 0, 1);
        k.put(1, NONE);
        k.push();
        k.make(0, 0, 18);
        Check.due("many(7)", k.many(7), 120);
        Check.due("FULLS", k.many(12), 1);
        Check.due("make(1, 0, 18)", k.make(1, 0, 18), 8);
        Check.due("the REFERENT", k.field(6, 0), NONE);
        Check.due("MINORS", k.many(11), 0);
        Check.due("FULLS", k.many(12), 3);
    }

    /**
     * OLD with 52 of 60 words used, and a HALF of 36 to 40 words, all held by the last FRAME's SLOTS: 4 has 8 words,
     * 5 and 6 have 13, and 7 has what is left.
     */
    private static Tenuredale withHeldHalf(int words) {
        Tenuredale x = Heaps.withEightLeft(6);
        x.make(1, 0, 11);
        x.make(2, 0, 11);
        x.make(3, 0, words - 36);
        return x;
    }

    private static void makeWithoutRoom() {
        Bound.of(4, "NONE if there is no room for it, as 6 says (the SLOT stays as it is).", "the HALF and OLD");
        Tenuredale x = withHeldHalf(40);
        Check.due("make(3, 0, 0)", x.make(3, 0, 0), NONE);
        Check.due("at(3)", x.at(3), 7);
        Check.due("many(0)", x.many(0), 8);
        Check.due("many(1)", x.many(1), 8);
        Check.due("MINORS", x.many(11), 2);
        Check.due("FULLS", x.many(12), 3);
        Check.due("OLD", x.many(5), 52);
        Check.due("OLD's words", x.many(6), 90);
        int[] due = {0, 8, 21, 34};
        for (int n = 0; n < due.length; n++) {
            place(x, 4 + n, 1, due[n]);
        }
        Check.due("make(1, 0, 12), a LARGE one", x.make(1, 0, 12), 8);

        Bound.of(4, "then it is not made", "OLD has 180 words, all of them used");
        Tenuredale o = Heaps.withAllOfOld();
        o.push();
        o.make(0, 0, 11);
        o.make(1, 0, 11);
        o.make(2, 0, 11);
        Check.due("make(3, 0, 0)", o.make(3, 0, 0), NONE);
        Check.due("at(3)", o.at(3), NONE);
        Check.due("FULLS", o.many(12), 63);
        Check.due("OLD's words", o.many(6), 180);
        Check.due("many(3)", o.many(3), 39);

        Bound.of(4, "NONE if there is no room for it, as 6 says (the SLOT stays as it is).", "LARGE");
        Tenuredale y = withLarge(6);
        Check.due("make(2, 0, 12)", y.make(2, 0, 12), NONE);
        Check.due("at(2)", y.at(2), 4);
        Check.due("make(2, 4, 20)", y.make(2, 4, 20), NONE);
        Check.due("many(0)", y.many(0), 6);
        Check.due("MINORS", y.many(11), 0);
        Check.due("FULLS", y.many(12), 4);
        Check.due("make(2, 0, 11)", y.make(2, 0, 11), 6);
    }

    private static void makeAmidMarking() {
        Bound.of(4, "What is made meanwhile is BLACK.");
        Tenuredale x = withHalfOf(38);
        x.start();
        x.make(3, 0, 0);
        Check.due("colour", x.ofObject(3, 6), 2);
        x.put(3, NONE);
        x.make(3, 0, 0);
        Check.due("by a MINOR", x.many(11), 1);
        Check.due("colour", x.ofObject(4, 6), 2);
        x.make(3, 4, 12);
        Check.due("colour of a LARGE one", x.ofObject(5, 6), 2);
        Check.due("many(15)", x.many(15), 3);

        Bound.of(4, "What is made meanwhile is BLACK.", "a FULL made room for it, so MARKING had an end");
        Tenuredale y = withHalfOf(38);
        y.start();
        y.make(3, 0, 1);
        Check.due("FULLS", y.many(12), 1);
        Check.due("colour", y.ofObject(3, 6), NONE);
        Check.due("many(15)", y.many(15), 0);
        Check.throwsState("step(1)", () -> y.step(1));
    }

    // ---- Promise 5

    private static void setRefuses() {
        Bound.of(5, "if there is no such SLOT (but NONE as other)");
        for (int slot : NO_SLOTS) {
            Bound.index("set(" + slot + ", 0, 0)", Heaps::rich, x -> x.set(slot, 0, 0));
            Bound.index("set(" + slot + ", 0, -1)", Heaps::rich, x -> x.set(slot, 0, NONE));
        }
        for (int other : NO_SLOTS_NOR_NONE) {
            Bound.index("set(0, 0, " + other + ")", Heaps::rich, x -> x.set(0, 0, other));
        }
        Bound.of(5, "or the OBJECT has no such FIELD");
        for (int field : new int[] {NONE, 2, MIN, MAX}) {
            Bound.index("set(0, " + field + ", 2)", Heaps::rich, x -> x.set(0, field, 2));
            Bound.index("set(0, " + field + ", -1)", Heaps::rich, x -> x.set(0, field, NONE));
        }
        for (int fields : new int[] {0, 1, 11, 12, 20}) {
            Supplier<Tenuredale> heap = () -> withFields(fields);
            Bound.index("set(0, " + fields + ", 1)", heap, x -> x.set(0, fields, 1));
            if (fields > 0) {
                Tenuredale x = heap.get();
                Check.due("set(0, " + (fields - 1) + ", 1)", x.set(0, fields - 1, 1), NONE);
                Check.due("the FIELD", x.field(0, fields - 1), 1);
            }
        }
        Bound.of(5, "Throws `IllegalStateException` if the SLOT (the first one) is NONE");
        Bound.state("set(1, 0, 0)", Heaps::rich, x -> x.set(1, 0, 0));
        Bound.state("set(3, 0, 3)", Heaps::rich, x -> x.set(3, 0, 3));
        Bound.state("set(3, 0, -1)", Heaps::rich, x -> x.set(3, 0, NONE));
        Bound.of(5, "If several exceptions apply, the one that is named first is thrown.");
        Bound.index("set(1, 0, 4), the SLOT is NONE", Heaps::rich, x -> x.set(1, 0, 4));
        Bound.index("set(1, 0, -2), the SLOT is NONE", Heaps::rich, x -> x.set(1, 0, -2));
        Bound.index("set(4, 9, 1), no SLOT, no FIELD", Heaps::rich, x -> x.set(4, 9, 1));
    }

    /** One with so many FIELDS in the SLOT 0, and one without any in the SLOT 1. */
    private static Tenuredale withFields(int fields) {
        Tenuredale x = new Tenuredale();
        x.make(0, 0, fields);
        x.make(1, 0, 0);
        return x;
    }

    private static void setNone() {
        Bound.of(5, "a SLOT that has what is written; NONE: NONE is");
        Tenuredale x = withFields(1);
        Check.due("set(0, 0, 1)", x.set(0, 0, 1), NONE);
        Check.due("set(0, 0, -1)", x.set(0, 0, NONE), 1);
        Check.due("the FIELD", x.field(0, 0), NONE);
        x.set(0, 0, 0);
        Check.due("set(0, 0, 2), of a SLOT that is NONE", x.set(0, 0, 2), 0);
        Check.due("the FIELD", x.field(0, 0), NONE);
        Bound.of(5, "Returns what the FIELD referred to so far (NONE).");
        Bound.still("set(0, 0, -1) of a FIELD that is NONE", () -> withFields(1), y -> y.set(0, 0, NONE), NONE);
        Bound.of(5, "have none any more (NONE)", "what is GONE is not what the FIELD referred to");
        Tenuredale y = new Tenuredale();
        y.make(0, 1, 1);
        Heaps.hang(y, 0, 0, 0, 0);
        y.minor();
        Check.due("set(0, 0, 0)", y.set(0, 0, 0), NONE);
    }

    private static void setOnCards() {
        String sentence = "As a FIELD of an OLD or LARGE one is written with a YOUNG one, its CARD is DIRTY.";
        Bound.of(5, sentence, "not by what is OLD, LARGE or NONE");
        Tenuredale x = withOldAt(2);
        x.make(2, 0, 12);
        x.set(0, 0, 1);
        x.set(0, 0, 0);
        x.set(0, 0, 2);
        x.set(0, 0, NONE);
        x.set(2, 11, 0);
        x.set(2, 11, 2);
        x.set(2, 11, NONE);
        x.set(2, 11, 3);
        Check.due("many(9)", x.many(9), 0);
        Bound.of(5, sentence, "not a YOUNG one's");
        x.make(3, 0, 11);
        x.set(3, 10, 3);
        Check.due("many(9)", x.many(9), 0);
        Bound.of(5, sentence, "it stays so, as the FIELD is NONE again");
        x.set(0, 0, 3);
        x.set(0, 0, NONE);
        Check.due("many(9)", x.many(9), 1);

        Bound.of(5, "has the CARD (address - 100) / 16, by its own address");
        int[][] cards = {{2, 0}, {3, 1}, {4, 1}};
        for (int[] one : cards) {
            Tenuredale y = withOldAt(one[0]);
            Check.due("address", y.ofObject(2, 1), 113 + one[0]);
            y.make(3, 0, 0);
            y.set(2, 0, 3);
            dirty(y, one[1]);
        }
        Tenuredale first = withOldAt(2);
        first.make(3, 0, 0);
        first.set(0, 0, 3);
        dirty(first, 0);
        Tenuredale last = Heaps.withAllOfOld();
        Check.due("address", last.ofObject(59, 1), 277);
        last.make(3, 0, 0);
        last.set(0, 0, 3);
        dirty(last, 11);
        Tenuredale large = new Tenuredale();
        large.make(0, 0, 12);
        large.make(1, 0, 12);
        large.make(3, 0, 0);
        large.set(0, 11, 3);
        dirty(large, 12);
        large.set(1, 0, 3);
        Check.due("isDirty(13), of that at 314", large.isDirty(13), true);
        for (int fields = 17; fields <= 20; fields++) {
            Tenuredale y = withLargeBehind(fields);
            Check.due("address", y.ofObject(7, 1), 386 + fields);
            y.make(0, 0, 0);
            y.set(3, 0, 0);
            dirty(y, fields == 17 ? 18 : 19);
        }
    }

    /** OLD with one of 13 words, one of so many, and one of 3 words behind them, in the SLOTS 0 to 2. */
    private static Tenuredale withOldAt(int words) {
        Tenuredale x = new Tenuredale();
        x.make(0, 0, 11);
        x.make(1, 0, words - 2);
        x.make(2, 0, 1);
        x.full(true);
        return x;
    }

    /** Six LARGE ones of 14 words, one with so many FIELDS, and one of 14 words behind them, in the SLOT 3. */
    private static Tenuredale withLargeBehind(int fields) {
        Tenuredale x = new Tenuredale();
        for (int n = 0; n < 8; n++) {
            if (n == 4) {
                x.push();
            }
            x.make(n % 4, 0, n == 6 ? fields : 12);
        }
        return x;
    }

    private static void dirty(Tenuredale x, int card) {
        for (int n = 0; n < 20; n++) {
            Check.due("isDirty(" + n + ")", x.isDirty(n), n == card);
        }
        Check.due("many(9)", x.many(9), 1);
    }

    private static void setAmidMarking() {
        String sentence = "As a FIELD (a REFERENT, too) of a BLACK one is written with a WHITE one, that becomes GREY.";
        Bound.of(5, sentence);
        Tenuredale x = withWhiteOne();
        x.set(1, 1, 3);
        Check.due("colour", x.ofObject(2, 6), 1);
        Bound.of(5, sentence, "a REFERENT");
        Tenuredale y = withWhiteOne();
        y.set(1, 0, 3);
        Check.due("colour", y.ofObject(2, 6), 1);
        Bound.of(5, sentence, "not of a GREY or WHITE one");
        Tenuredale z = withWhiteOne();
        z.set(0, 0, 3);
        z.set(3, 0, 3);
        Check.due("colour", z.ofObject(2, 6), 0);
        Bound.of(5, sentence, "with a GREY or BLACK one");
        z.set(1, 1, 0);
        Check.due("a GREY one's colour", z.ofObject(1, 6), 1);
        z.set(1, 1, 1);
        Check.due("a BLACK one's colour", z.ofObject(0, 6), 2);
        z.set(1, 1, NONE);
        Check.due("many(15)", z.many(15), 1);
        Bound.of(5, sentence, "MARKING has an end");
        z.full(true);
        z.set(1, 1, 3);
        Check.due("colour", z.ofObject(2, 6), NONE);
        z.set(0, 0, NONE);
        z.set(1, 1, NONE);
        z.start();
        Check.due("many(15)", z.many(15), 3);
    }

    /** MARKING goes on; 0, a WEAK one in the SLOT 1, is BLACK, 1 in the SLOT 0 GREY, 2 in the SLOT 3 WHITE. */
    private static Tenuredale withWhiteOne() {
        Tenuredale x = new Tenuredale();
        x.make(1, 1, 2);
        x.make(0, 0, 1);
        Heaps.hang(x, 0, 0, 0, 1);
        x.start();
        x.step(1);
        x.get(0, 0, 3);
        x.set(0, 0, NONE);
        return x;
    }

    // ---- Promises 6 to 8

    private static void get() {
        Bound.of(6, "Throws `IndexOutOfBoundsException` if there is no such SLOT");
        for (int slot : NO_SLOTS) {
            Bound.index("get(" + slot + ", 0, 0)", Heaps::rich, x -> x.get(slot, 0, 0));
            Bound.index("get(0, 0, " + slot + ")", Heaps::rich, x -> x.get(0, 0, slot));
        }
        Bound.of(6, "or the OBJECT has no such FIELD");
        for (int field : new int[] {NONE, 2, MIN, MAX}) {
            Bound.index("get(0, " + field + ", 1)", Heaps::rich, x -> x.get(0, field, 1));
        }
        for (int fields : new int[] {0, 1, 11, 12, 20}) {
            Supplier<Tenuredale> heap = () -> withFields(fields);
            Bound.index("get(0, " + fields + ", 1)", heap, x -> x.get(0, fields, 1));
            if (fields > 0) {
                Tenuredale x = heap.get();
                x.set(0, fields - 1, 1);
                Check.due("get(0, " + (fields - 1) + ", 3)", x.get(0, fields - 1, 3), 1);
            }
        }
        Bound.of(6, "Throws `IllegalStateException` if the first SLOT is NONE");
        Bound.state("get(1, 0, 0)", Heaps::rich, x -> x.get(1, 0, 0));
        Bound.state("get(3, 0, 3)", Heaps::rich, x -> x.get(3, 0, 3));
        Bound.of(6, "If several exceptions apply, the one that is named first is thrown.");
        Bound.index("get(1, 0, 4), the SLOT is NONE", Heaps::rich, x -> x.get(1, 0, 4));
        Bound.index("get(1, 0, -1), the SLOT is NONE", Heaps::rich, x -> x.get(1, 0, NONE));
        Bound.index("get(4, 9, 1), no SLOT, no FIELD", Heaps::rich, x -> x.get(4, 9, 1));

        Bound.of(6, "Returns what that is (NONE).");
        Bound.still("get(0, 0, 1), NONE into NONE", Heaps::rich, x -> x.get(0, 0, 1), NONE);
        Tenuredale x = withFields(2);
        Check.due("get(0, 1, 1), NONE into a SLOT", x.get(0, 1, 1), NONE);
        Check.due("at(1)", x.at(1), NONE);
        Bound.of(6, "the SLOT that refers to what the FIELD does then", "the SLOT that is read");
        x.set(0, 0, 0);
        Check.due("get(0, 0, 0)", x.get(0, 0, 0), 0);
        Check.due("at(0)", x.at(0), 0);
        Check.due("get(0, 1, 0)", x.get(0, 1, 0), NONE);
        Check.due("at(0)", x.at(0), NONE);
        Check.throwsState("get(0, 1, 0)", () -> x.get(0, 1, 0));
        Bound.of(6, "the SLOT that refers to what the FIELD does then", "amid MARKING, no colour changes");
        Tenuredale y = withWhiteOne();
        y.set(0, 0, 3);
        Check.due("get(0, 0, 2)", y.get(0, 0, 2), 2);
        Check.due("colour", y.ofObject(2, 6), 0);
    }

    private static void put() {
        Bound.of(7, "Throws `IndexOutOfBoundsException` if there is no such SLOT (but NONE as other)");
        for (int slot : NO_SLOTS) {
            Bound.index("put(" + slot + ", 0)", Heaps::rich, x -> x.put(slot, 0));
            Bound.index("put(" + slot + ", -1)", Heaps::rich, x -> x.put(slot, NONE));
        }
        for (int other : NO_SLOTS_NOR_NONE) {
            Bound.index("put(0, " + other + ")", Heaps::rich, x -> x.put(0, other));
        }
        Bound.of(7, "the other one; NONE: the SLOT is NONE then");
        Tenuredale x = withFields(0);
        Check.due("put(0, -1)", x.put(0, NONE), 0);
        Check.due("at(0)", x.at(0), NONE);
        Check.due("put(1, 0), a SLOT that is NONE", x.put(1, 0), 1);
        Check.due("at(1)", x.at(1), NONE);
        Bound.of(7, "Returns what it referred to so far (NONE).");
        Bound.still("put(3, -1)", Heaps::rich, y -> y.put(3, NONE), NONE);
        Bound.still("put(3, 1)", Heaps::rich, y -> y.put(3, 1), NONE);
        Bound.still("put(0, 0)", Heaps::rich, y -> y.put(0, 0), 8);
        Bound.of(7, "SLOTS that are told are those of the last FRAME.", "the 8th");
        Tenuredale e = Heaps.richWithFrames(8);
        int made = e.at(1);
        Check.due("put(0, 1)", e.put(0, 1), NONE);
        Check.due("put(1, -1)", e.put(1, NONE), made);
        e.pop();
        Check.due("at(0) of the 7th", e.at(0), NONE);
        Check.due("at(1) of the 7th", e.at(1), made - 1);
        Bound.of(7, "Lets a SLOT refer to what another one does.", "amid MARKING, no colour changes");
        Tenuredale y = withWhiteOne();
        y.put(2, 3);
        Check.due("colour", y.ofObject(2, 6), 0);
    }

    private static void swap() {
        Bound.of(8, "Throws `IndexOutOfBoundsException` if there is no such SLOT, or GLOBAL");
        for (int wrong : NO_SLOTS) {
            Bound.index("swap(" + wrong + ", 0)", Heaps::rich, x -> x.swap(wrong, 0));
            Bound.index("swap(0, " + wrong + ")", Heaps::rich, x -> x.swap(0, wrong));
            Bound.index("swap(" + wrong + ", " + wrong + ")", Heaps::rich, x -> x.swap(wrong, wrong));
        }
        Bound.of(8, "Returns what the SLOT refers to then (NONE).");
        Bound.still("swap(3, 0), NONE with NONE", Heaps::rich, x -> x.swap(3, 0), NONE);
        Tenuredale x = withFields(0);
        Check.due("swap(0, 3)", x.swap(0, 3), NONE);
        Check.due("at(0)", x.at(0), NONE);
        Check.due("swap(3, 3)", x.swap(3, 3), 0);
        Check.due("at(3)", x.at(3), 0);
        Check.due("swap(2, 3)", x.swap(2, 3), NONE);
        Bound.of(8, "SLOTS that are told are those of the last FRAME.", "from the first to the 8th");
        Tenuredale e = withFields(0);
        e.swap(0, 0);
        for (int frames = 2; frames <= 8; frames++) {
            e.push();
        }
        Check.due("swap(3, 0)", e.swap(3, 0), 0);
        Check.due("at(3)", e.at(3), 0);
        Check.due("full(true)", e.full(true), 0);
        Bound.of(8, "Exchanges what a SLOT and a GLOBAL refer to.", "amid MARKING, no colour changes");
        Tenuredale y = withWhiteOne();
        y.swap(3, 0);
        Check.due("colour", y.ofObject(2, 6), 0);
        Check.due("finish()", y.finish(), 0);
        Check.due("the GLOBAL holds it", y.ofObject(2, 0), 2);
    }

    // ---- Promise 9

    private static void hash() {
        Bound.of(9, "Throws `IndexOutOfBoundsException` if there is no such SLOT");
        for (int slot : NO_SLOTS) {
            Bound.index("hash(" + slot + ")", Heaps::rich, x -> x.hash(slot));
        }
        Bound.of(9, "Throws `IllegalStateException` if the SLOT is NONE");
        Bound.state("hash(1)", Heaps::rich, x -> x.hash(1));
        Bound.state("hash(3)", Heaps::rich, x -> x.hash(3));
        Bound.state("hash(0)", Tenuredale::new, x -> x.hash(0));
        Bound.of(9, "as it is asked for first, the number of those that were given ahead");
        Bound.still("hash(0), asked for once more", Heaps::rich, x -> x.hash(0), 1);
        Tenuredale x = new Tenuredale();
        for (int n = 0; n < 150; n++) {
            x.make(0, 0, 0);
            Check.due("hash(0) of " + n, x.hash(0), n);
            Check.due("hash(0) of " + n + ", once more", x.hash(0), n);
        }
    }

    private static void hashGrows() {
        String sentence = "As an OBJECT with a HASH moves the first time behind that, it GROWS.";
        Bound.of(9, sentence, "it has moved ahead of that");
        Tenuredale x = new Tenuredale();
        x.make(0, 0, 0);
        x.make(1, 0, 0);
        x.full(true);
        x.hash(1);
        Check.due("SIZE", x.ofObject(1, 2), 2);
        x.minor();
        x.full(true);
        Check.due("SIZE, not moved by them", x.ofObject(1, 2), 2);
        x.put(0, NONE);
        x.full(true);
        Check.due("SIZE, moved", x.ofObject(1, 2), 3);
        Check.due("TOP", x.many(5), 3);
        Bound.of(9, sentence, "the second time it does not");
        Tenuredale y = new Tenuredale();
        y.make(0, 0, 10);
        y.hash(0);
        y.minor();
        Check.due("SIZE", y.ofObject(0, 2), 13);
        y.minor();
        Check.due("SIZE", y.ofObject(0, 2), 13);
        Check.due("TOP", y.many(5), 13);
        Bound.of(9, sentence, "a LARGE one never does");
        Tenuredale z = new Tenuredale();
        z.make(0, 0, 12);
        z.hash(0);
        z.minor();
        z.full(false);
        z.pin(0);
        Check.due("SIZE", z.ofObject(0, 2), 14);
        z.make(1, 0, 11);
        z.hash(1);
        z.full(true);
        Check.due("SIZE of one of 11 FIELDS", z.ofObject(1, 2), 14);
        Check.due("it is OLD still", z.ofObject(1, 0), 2);
        Bound.of(9, sentence, "one that is PINNED, as it moves to OLD");
        Tenuredale p = new Tenuredale();
        p.make(0, 0, 0);
        p.hash(0);
        p.pin(0);
        Check.due("SIZE", p.ofObject(0, 2), 3);
        p.make(1, 0, 0);
        p.pin(1);
        p.hash(1);
        p.put(0, NONE);
        p.full(true);
        Check.due("SIZE of one that was PINNED ahead", p.ofObject(1, 2), 2);
    }

    // ---- Promise 10

    private static void pinRefuses() {
        Bound.of(10, "Throws `IndexOutOfBoundsException` if there is no such SLOT");
        for (int slot : NO_SLOTS) {
            Bound.index("pin(" + slot + ")", Heaps::rich, x -> x.pin(slot));
            Bound.index("pin(" + slot + ") with 4 that are PINNED", Heaps::withFourPinned, x -> x.pin(slot));
        }
        Bound.of(10, "Throws `IllegalStateException` if the SLOT is NONE, or there are 4 others");
        Bound.state("pin(1)", Heaps::rich, x -> x.pin(1));
        Bound.state("pin(3)", Heaps::withFourPinned, x -> x.pin(3));
        for (int fields : new int[] {0, 11, 12, 20}) {
            Bound.state("pin(0) with 4 others, " + fields + " FIELDS", () -> {
                Tenuredale x = Heaps.withFourPinned();
                x.make(0, 0, fields);
                return x;
            }, x -> x.pin(0));
        }
        Bound.state("pin(0) of an OLD one, with 4 others", () -> {
            Tenuredale x = Heaps.withFourPinned();
            x.make(0, 0, 2);
            x.full(true);
            return x;
        }, x -> x.pin(0));
        Bound.of(10, "If several exceptions apply, the one that is named first is thrown.",
            "4 others, and no room: it is thrown ahead of all answers");
        Bound.state("pin(0)", () -> {
            Tenuredale x = Heaps.withEightLeft(7);
            x.pop();
            for (int slot = 0; slot < 4; slot++) {
                x.pin(slot);
            }
            x.push();
            x.make(0, 0, 7);
            return x;
        }, x -> x.pin(0));
    }

    private static void pinFour() {
        Bound.of(10, "At most 4 are.", "the fourth");
        Tenuredale x = new Tenuredale();
        for (int n = 0; n < 4; n++) {
            x.make(0, 0, n == 2 ? 12 : 1);
            Check.due("pin(0)", x.pin(0), true);
            Check.due("PINNED", x.ofObject(n, 5), 1);
        }
        x.make(1, 0, 12);
        Check.throwsState("the fifth", () -> x.pin(1));
        Check.due("PINNED", x.ofObject(4, 5), 0);
        Bound.of(10, "or there are 4 others", "it is one of the 4");
        Bound.still("pin(0)", () -> {
            Tenuredale y = Heaps.withFourPinned();
            y.pop();
            return y;
        }, y -> y.pin(0) ? 1 : 0, 1);
        Check.due("pin(0)", x.pin(0), true);
        Bound.of(10, "or there are 4 others", "one is not PINNED any more");
        x.unpin(0);
        Check.due("pin(1)", x.pin(1), true);
        Check.throwsState("pin(0)", () -> x.pin(0));
        Bound.of(10, "One that is PINNED is THERE, and does not move.", "4 of them, without a SLOT");
        x.put(0, NONE);
        x.put(1, NONE);
        Check.due("full(false)", x.full(false), 1);
        Check.due("minor()", x.minor(), 0);
        int[] due = {100, 103, 300, NONE, 314};
        for (int n = 0; n < due.length; n++) {
            Check.due("address of " + n, x.ofObject(n, 1), due[n]);
        }
        x.start();
        Check.due("finish()", x.finish(), 0);
    }

    private static void pinRoom() {
        Bound.of(10, "It cannot be PINNED, if there is no room for that (as it would be then).", "just room");
        Tenuredale x = Heaps.withEightLeft(6);
        Check.due("pin(0)", x.pin(0), true);
        place(x, 4, 2, 152);
        Check.due("TOP", x.many(5), 60);
        Check.due("OLD's words", x.many(6), 60);
        Check.due("AGE", x.ofObject(4, 3), 0);
        Bound.of(10, "false, if there is no room", "a word too many");
        Bound.still("pin(0)", () -> Heaps.withEightLeft(7), y -> y.pin(0) ? 1 : 0, 0);
        Bound.of(10, "It cannot be PINNED, if there is no room for that (as it would be then).", "it would GROW");
        Bound.still("pin(0) of 8 words and a HASH", () -> {
            Tenuredale y = Heaps.withEightLeft(6);
            y.hash(0);
            return y;
        }, y -> y.pin(0) ? 1 : 0, 0);
        Tenuredale grown = Heaps.withEightLeft(5);
        grown.hash(0);
        Check.due("pin(0) of 7 words and a HASH", grown.pin(0), true);
        Check.due("TOP", grown.many(5), 60);
        Tenuredale before = Heaps.withEightLeft(5);
        before.hash(0);
        before.tenure(9);
        before.minor();
        Check.due("SIZE", before.ofObject(4, 2), 8);
        Check.due("pin(0) of one that has GROWN", before.pin(0), true);
        Bound.of(10, "It cannot be PINNED, if there is no room for that (as it would be then).",
            "OLD has 180 words, all of them used");
        Bound.still("pin(3)", () -> {
            Tenuredale y = Heaps.withAllOfOld();
            y.make(3, 0, 0);
            return y;
        }, y -> y.pin(3) ? 1 : 0, 0);
        Bound.of(10, "To PIN an OBJECT that is YOUNG, it moves to the TOP of OLD first",
            "one that is not needs no room");
        Tenuredale full = Heaps.withAllOfOld();
        Check.due("pin(0) of an OLD one", full.pin(0), true);
        place(full, 59, 2, 277);
        full.make(3, 0, 12);
        Check.due("pin(3) of a LARGE one", full.pin(3), true);
        place(full, 60, 3, 300);
    }

    private static void pinOnCards() {
        String sentence = "its CARD is DIRTY then, if it has a FIELD with a YOUNG one";
        Bound.of(10, sentence);
        Tenuredale x = new Tenuredale();
        x.make(0, 0, 11);
        x.make(1, 0, 0);
        x.set(0, 10, 1);
        x.pin(0);
        dirty(x, 0);
        Bound.of(10, sentence, "a REFERENT");
        Tenuredale w = new Tenuredale();
        w.make(0, 1, 1);
        w.make(1, 0, 0);
        w.set(0, 0, 1);
        w.pin(0);
        dirty(w, 0);
        Bound.of(10, sentence, "none, but itself");
        Tenuredale y = new Tenuredale();
        y.make(0, 0, 1);
        y.set(0, 0, 0);
        y.pin(0);
        Check.due("many(9)", y.many(9), 0);
        Bound.of(10, sentence, "one that is OLD already, or LARGE");
        y.make(1, 0, 12);
        y.set(1, 0, 0);
        y.set(1, 1, 1);
        y.pin(1);
        Check.due("many(9)", y.many(9), 0);
        Bound.of(10, sentence, "the CARD is that of where it lies then");
        Tenuredale z = withOldAt(3);
        z.make(3, 0, 1);
        z.set(3, 0, 3);
        z.make(1, 0, 0);
        z.set(3, 0, 1);
        z.pin(3);
        Check.due("address", z.ofObject(3, 1), 119);
        dirty(z, 1);
    }

    private static void pinAmidMarking() {
        Bound.of(10, "what FRAMES, GLOBALS and the QUEUE refer to, and what is PINNED, becomes GREY, if it is WHITE",
            "not ahead of a FINISH");
        Tenuredale x = withWhiteOne();
        Check.due("pin(3)", x.pin(3), true);
        Check.due("colour", x.ofObject(2, 6), 0);
        x.put(3, NONE);
        Check.due("finish()", x.finish(), 0);
        Check.due("where it is", x.ofObject(2, 0), 2);
    }

    // ---- Promises 11 and 12

    private static void unpin() {
        Bound.of(11, "Throws `IndexOutOfBoundsException` if there is no such SLOT");
        for (int slot : NO_SLOTS) {
            Bound.index("unpin(" + slot + ")", Heaps::rich, x -> x.unpin(slot));
        }
        Bound.of(11, "Throws `IllegalStateException` if the SLOT is NONE");
        Bound.state("unpin(1)", Heaps::rich, x -> x.unpin(1));
        Bound.state("unpin(0)", Heaps::withFourPinned, x -> x.unpin(0));
        Bound.of(11, "Returns whether it was.");
        Bound.still("unpin(0) of a YOUNG one", Heaps::rich, x -> x.unpin(0) ? 1 : 0, 0);
        Tenuredale x = Heaps.withFourPinned();
        x.pop();
        for (int slot = 0; slot < 4; slot++) {
            Check.due("unpin(" + slot + ")", x.unpin(slot), true);
            Check.due("unpin(" + slot + ") once more", x.unpin(slot), false);
            Check.due("PINNED", x.ofObject(slot, 5), 0);
            place(x, slot, 2, 100 + 3 * slot);
        }
        Bound.of(11, "Lets the OBJECT of a SLOT not be PINNED any more.", "then it can be GONE, and moves");
        x.put(0, NONE);
        Check.due("full(true)", x.full(true), 1);
        place(x, 1, 2, 100);
    }

    private static void take() {
        Bound.of(12, "Throws `IndexOutOfBoundsException` if there is no such SLOT");
        for (int slot : NO_SLOTS) {
            Bound.index("take(" + slot + ")", Heaps::rich, x -> x.take(slot));
            Bound.index("take(" + slot + ") of an empty QUEUE", Tenuredale::new, x -> x.take(slot));
        }
        Bound.of(12, "NONE if the QUEUE is empty (the SLOT stays as it is)");
        Bound.still("take(0)", Tenuredale::new, x -> x.take(0), NONE);
        Bound.still("take(0) of a QUEUE that has become empty", ProgramBoundsTest::withEmptiedQueue, x -> x.take(0),
            NONE);
        Tenuredale x = withEmptiedQueue();
        Check.due("take(0)", x.take(0), NONE);
        Check.due("at(0)", x.at(0), x.many(0) - 3);
        Bound.of(12, "Takes the first OBJECT out of the QUEUE; the SLOT refers to it then.", "the only one");
        Tenuredale y = Heaps.rich();
        Check.due("many(10)", y.many(10), 1);
        Check.due("take(3)", y.take(3), 4);
        Check.due("at(3)", y.at(3), 4);
        Check.due("many(10)", y.many(10), 0);
        Check.throwsIndex("queue(0)", () -> y.queue(0));
        Bound.of(12, "Takes the first OBJECT out of the QUEUE; the SLOT refers to it then.",
            "30 of them, one behind the other");
        Tenuredale z = new Tenuredale();
        for (int n = 0; n < 30; n++) {
            z.make(0, 4, 0);
        }
        z.put(0, NONE);
        z.full(true);
        Check.due("many(10)", z.many(10), 30);
        for (int n = 0; n < 30; n++) {
            Check.due("take(0)", z.take(0), n);
        }
        Check.due("take(0)", z.take(0), NONE);
        Check.due("at(0)", z.at(0), 29);
    }

    private static Tenuredale withEmptiedQueue() {
        Tenuredale x = Heaps.rich();
        x.take(3);
        return x;
    }
}
