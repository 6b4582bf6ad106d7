import java.util.function.Supplier;

/** Promises 13 to 18 at their boundaries; each test names the sentence that it holds. */
public final class CollectorBoundsTest {
    private static final int NONE = -1;
    private static final int MIN = Integer.MIN_VALUE;
    private static final int MAX = Integer.MAX_VALUE;

    private CollectorBoundsTest() { }

    public static void main(String[] args) {
        minorOfLittle();
        minorOrFull();
        minorTenure();
        minorOtherHalf();
        minorFrames();
        minorCards();
        minorWeak();
        minorFinal();
        minorAmidMarking();
        fullOfLittle();
        fullMarks();
        fullLetsGo();
        fullFinals();
        fullSlides();
        fullTakesYoung(14);
        fullTakesYoung(17);
        onceMore(14);
        onceMore(17);
        wordsOfOld(14);
        wordsOfOld(17);
        fullAmidMarking();
        start();
        stepRefuses();
        steps();
        stepGreys();
        finish();
        finishMarks();
        tenure();
        Bound.end(13, 18);
    }

    private static void place(Tenuredale x, int object, int place, int address) {
        Check.due("where " + object + " is", x.ofObject(object, 0), place);
        Check.due("address of " + object, x.ofObject(object, 1), address);
    }

    private static void minorsAndFulls(Tenuredale x, int minors, int fulls) {
        Check.due("MINORS", x.many(11), minors);
        Check.due("FULLS", x.many(12), fulls);
    }

    // ---- Promise 13

    private static void minorOfLittle() {
        Bound.of(13, "Returns how many OBJECTS are GONE by that.", "an empty heap");
        Tenuredale x = new Tenuredale();
        Check.due("minor()", x.minor(), 0);
        minorsAndFulls(x, 1, 0);
        Check.due("TOUCHED", x.many(13), 0);
        Bound.of(13, "the other HALF is in use", "without any OBJECT");
        Check.due("many(4)", x.many(4), 40);
        Check.due("many(3)", x.many(3), 0);
        Check.due("minor()", x.minor(), 0);
        Check.due("many(4)", x.many(4), 0);

        Bound.of(13, "Returns how many OBJECTS are GONE by that.", "a HALF that is full, all or all but one");
        for (int kept = 0; kept <= 1; kept++) {
            Tenuredale y = new Tenuredale();
            for (int n = 0; n < 20; n++) {
                y.make(0, 0, 0);
            }
            Check.due("many(3)", y.many(3), 40);
            if (kept == 0) {
                y.put(0, NONE);
            }
            Check.due("minor()", y.minor(), 20 - kept);
            Check.due("many(1)", y.many(1), kept);
            Check.due("many(3)", y.many(3), 2 * kept);
            Check.due("TOUCHED", y.many(13), 2 * kept);
            minorsAndFulls(y, 1, 0);
        }
        Bound.of(13, "TOUCHED: by a MINOR, the SIZES of all that moved, as they are then", "GROWN");
        Tenuredale z = new Tenuredale();
        z.make(0, 0, 0);
        z.hash(0);
        z.minor();
        Check.due("TOUCHED", z.many(13), 3);
        Check.due("many(14)", z.many(14), 3);
    }

    private static void minorOrFull() {
        String sentence = "If OLD has less room behind its TOP than all YOUNG OBJECTS would need there";
        Bound.of(13, sentence, "just room");
        Tenuredale x = Heaps.withEightLeft(6);
        Check.due("minor()", x.minor(), 0);
        minorsAndFulls(x, 3, 0);
        place(x, 4, 2, 152);
        Check.due("TOP", x.many(5), 60);
        Check.due("OLD's words", x.many(6), 60);
        Bound.of(13, sentence, "a word too few");
        Tenuredale y = Heaps.withEightLeft(7);
        Check.due("minor()", y.minor(), 0);
        minorsAndFulls(y, 2, 1);
        place(y, 4, 1, 0);
        Check.due("AGE", y.ofObject(4, 3), 0);
        Check.due("TOUCHED", y.many(13), 61);
        Bound.of(13, sentence, "what would be GONE is YOUNG, too");
        Tenuredale z = Heaps.withEightLeft(7);
        z.put(0, NONE);
        Check.due("minor()", z.minor(), 1);
        minorsAndFulls(z, 2, 1);
        Bound.of(13, "(GROWN, if they would GROW)");
        Tenuredale g = Heaps.withEightLeft(6);
        g.hash(0);
        g.minor();
        minorsAndFulls(g, 2, 1);
        place(g, 4, 1, 0);
        Check.due("SIZE", g.ofObject(4, 2), 8);
        Tenuredale h = Heaps.withEightLeft(5);
        h.hash(0);
        h.minor();
        minorsAndFulls(h, 3, 0);
        Check.due("TOP", h.many(5), 60);
        Tenuredale i = Heaps.withEightLeft(5);
        i.tenure(9);
        i.hash(0);
        i.minor();
        i.minor();
        minorsAndFulls(i, 4, 0);
        place(i, 4, 1, 0);
        Bound.of(13, sentence, "a LARGE one needs none there");
        Tenuredale l = Heaps.withEightLeft(6);
        l.make(1, 0, 12);
        l.minor();
        minorsAndFulls(l, 3, 0);

        Bound.of(13, sentence, "OLD has 180 words, all of them used");
        Tenuredale o = Heaps.withAllOfOld();
        Check.due("minor() of nothing that is YOUNG", o.minor(), 0);
        minorsAndFulls(o, 1, 60);
        Check.due("many(4)", o.many(4), 40);
        o.make(1, 0, 0);
        Check.due("minor()", o.minor(), 0);
        minorsAndFulls(o, 1, 61);
        place(o, 60, 1, 40);
        Check.due("OLD's words", o.many(6), 180);

        Bound.of(13, "a FULL is done instead, with SOFT ones kept");
        Tenuredale s = Heaps.withEightLeft(7);
        s.make(1, 2, 1);
        Heaps.hang(s, 1, 0, 0, 0);
        s.make(2, 1, 1);
        Heaps.hang(s, 2, 0, 0, 0);
        Check.due("minor()", s.minor(), 1);
        Check.due("a SOFT one's REFERENT", s.field(5, 0), 6);
        Check.due("a WEAK one's REFERENT", s.field(7, 0), NONE);
        minorsAndFulls(s, 2, 1);
    }

    private static void minorTenure() {
        String sentence = "if that is TENURE or more (1 to 9; 2 at first)";
        Bound.of(13, sentence, "2 at first");
        Tenuredale x = new Tenuredale();
        x.make(0, 0, 0);
        x.minor();
        place(x, 0, 1, 40);
        x.minor();
        place(x, 0, 2, 100);
        Bound.of(13, sentence, "1");
        Tenuredale y = new Tenuredale();
        y.tenure(1);
        y.make(0, 0, 0);
        y.minor();
        place(y, 0, 2, 100);
        Check.due("AGE", y.ofObject(0, 3), 1);
        Check.due("many(3)", y.many(3), 0);
        Check.due("many(4)", y.many(4), 40);
        Bound.of(13, sentence, "9");
        Tenuredale z = new Tenuredale();
        z.tenure(9);
        z.make(0, 0, 0);
        for (int age = 1; age <= 8; age++) {
            z.minor();
            place(z, 0, 1, age % 2 == 0 ? 0 : 40);
            Check.due("AGE", z.ofObject(0, 3), age);
        }
        z.minor();
        place(z, 0, 2, 100);
        Check.due("AGE", z.ofObject(0, 3), 9);
        z.minor();
        Check.due("AGE of one that is OLD", z.ofObject(0, 3), 9);
        Bound.of(13, sentence, "more, as TENURE became less");
        Tenuredale w = new Tenuredale();
        w.tenure(9);
        w.make(0, 0, 0);
        w.minor();
        w.minor();
        w.minor();
        w.tenure(2);
        place(w, 0, 1, 40);
        w.minor();
        place(w, 0, 2, 100);
        Check.due("AGE", w.ofObject(0, 3), 4);
        Bound.of(13, "each YOUNG OBJECT to which it refers moves (once)");
        Tenuredale o = new Tenuredale();
        o.make(0, 0, 2);
        o.put(1, 0);
        o.set(0, 0, 0);
        o.set(0, 1, 0);
        o.swap(1, 0);
        o.minor();
        Check.due("AGE", o.ofObject(0, 3), 1);
        place(o, 0, 1, 40);
        Check.due("TOUCHED", o.many(13), 4);
    }

    private static void minorOtherHalf() {
        String sentence = "or the other HALF has no room for it at its TOP";
        Bound.of(13, sentence, "just room for all");
        Tenuredale x = withForty();
        x.minor();
        place(x, 3, 1, 78);
        Check.due("many(3)", x.many(3), 40);
        Check.due("TOP", x.many(5), 0);
        Check.due("addressFor(0)", x.addressFor(0), NONE);
        Bound.of(13, sentence, "the last one, by a word, as one ahead of it GROWS");
        Tenuredale y = withForty();
        y.hash(0);
        y.minor();
        place(y, 2, 1, 67);
        place(y, 3, 2, 100);
        Check.due("AGE", y.ofObject(3, 3), 1);
        Check.due("many(3)", y.many(3), 39);
        Bound.of(13, sentence, "as it GROWS itself");
        Tenuredale z = withForty();
        z.hash(3);
        z.minor();
        place(z, 3, 2, 100);
        Check.due("SIZE", z.ofObject(3, 2), 3);
        Check.due("TOP", z.many(5), 3);
        Bound.of(13, sentence, "but for a smaller one behind it");
        Tenuredale w = withForty();
        for (int slot = 0; slot < 3; slot++) {
            w.hash(slot);
        }
        w.minor();
        place(w, 2, 2, 100);
        place(w, 3, 1, 68);
        Check.due("many(3)", w.many(3), 30);
        Bound.of(13, sentence, "one that rises");
        Tenuredale q = new Tenuredale();
        q.make(0, 0, 11);
        q.make(1, 0, 11);
        q.make(2, 0, 9);
        q.make(3, 4, 1);
        q.put(3, NONE);
        q.hash(0);
        q.minor();
        Check.due("queue(0)", q.queue(0), 3);
        place(q, 3, 2, 100);
        Check.due("many(3)", q.many(3), 38);
    }

    /** A HALF that is full: of 13, 13, 12 and 2 words, in the SLOTS 0 to 3. */
    private static Tenuredale withForty() {
        Tenuredale x = new Tenuredale();
        x.make(0, 0, 11);
        x.make(1, 0, 11);
        x.make(2, 0, 10);
        x.make(3, 0, 0);
        return x;
    }

    private static void minorFrames() {
        Bound.of(13, "FRAMES from the first one, SLOT by SLOT; GLOBALS; the QUEUE", "8 FRAMES");
        Tenuredale x = new Tenuredale();
        x.tenure(9);
        x.make(0, 4, 0);
        x.put(0, NONE);
        x.minor();
        x.make(0, 0, 0);
        x.swap(0, 3);
        for (int frames = 1; frames <= 8; frames++) {
            x.make(3, 0, 0);
            x.make(0, 0, 0);
            if (frames < 8) {
                x.push();
            }
        }
        Check.due("minor()", x.minor(), 0);
        for (int n = 0; n < 8; n++) {
            place(x, 2 * n + 3, 1, 4 * n);
            place(x, 2 * n + 2, 1, 4 * n + 2);
        }
        place(x, 1, 1, 32);
        place(x, 0, 1, 34);
        Bound.of(13, "(d) All other YOUNG ones are GONE", "what FRAMES that were taken away referred to");
        for (int frames = 7; frames >= 1; frames--) {
            x.pop();
        }
        Check.due("minor()", x.minor(), 14);
        Check.due("many(1)", x.many(1), 4);
    }

    private static void minorCards() {
        String sentence = "of OBJECTS that were OLD or LARGE ahead of the MINOR and whose CARD is DIRTY, by address";
        Bound.of(13, sentence, "OLD ones that nothing refers to, too");
        Tenuredale x = new Tenuredale();
        x.make(0, 0, 1);
        x.full(true);
        x.make(1, 0, 0);
        x.set(0, 0, 1);
        x.put(0, NONE);
        x.put(1, NONE);
        Check.due("minor()", x.minor(), 0);
        Check.due("TOUCHED", x.many(13), 5);
        Check.due("isDirty(0)", x.isDirty(0), true);
        Check.due("full(true)", x.full(true), 2);
        Bound.of(13, sentence, "its FIELD is NONE again");
        Tenuredale y = new Tenuredale();
        y.make(0, 0, 1);
        y.full(true);
        y.make(1, 0, 0);
        y.set(0, 0, 1);
        y.set(0, 0, NONE);
        y.put(1, NONE);
        Check.due("minor()", y.minor(), 1);
        Check.due("TOUCHED, by its CARD", y.many(13), 3);
        Check.due("isDirty(0)", y.isDirty(0), false);
        Check.due("minor()", y.minor(), 0);
        Check.due("TOUCHED, without a CARD", y.many(13), 0);
        Bound.of(13, sentence, "OLD ones ahead of LARGE ones, and those at 115 and 116 apart");
        Tenuredale z = new Tenuredale();
        z.tenure(9);
        z.make(0, 0, 11);
        z.make(1, 0, 0);
        z.make(2, 0, 1);
        z.full(true);
        z.make(3, 0, 12);
        z.push();
        z.make(1, 0, 0);
        z.make(2, 0, 0);
        z.swap(1, 1);
        z.swap(2, 2);
        z.pop();
        z.put(1, NONE);
        z.swap(1, 2);
        z.set(3, 11, 1);
        z.swap(1, 1);
        z.set(2, 0, 1);
        z.put(1, NONE);
        Check.due("many(9)", z.many(9), 2);
        Check.due("minor()", z.minor(), 0);
        place(z, 2, 2, 115);
        place(z, 4, 1, 42);
        place(z, 5, 1, 40);
        Check.due("TOUCHED: 13, 2 and 3 of CARD 0, 14 of CARD 12, and 4", z.many(13), 36);

        sentence = "Each CARD is DIRTY, just if an OBJECT of it has a FIELD (a REFERENT, too) with a YOUNG one.";
        Bound.of(13, sentence);
        Check.due("isDirty(0)", z.isDirty(0), true);
        Check.due("isDirty(12)", z.isDirty(12), true);
        z.tenure(1);
        z.minor();
        Check.due("many(9), as all are OLD", z.many(9), 0);
        Bound.of(13, sentence, "a REFERENT");
        Tenuredale w = new Tenuredale();
        w.make(0, 1, 1);
        w.full(true);
        w.make(1, 0, 0);
        w.set(0, 0, 1);
        w.minor();
        Check.due("isDirty(0)", w.isDirty(0), true);
        Check.due("the REFERENT", w.field(0, 0), 1);
        Bound.of(13, sentence, "of one that became OLD by it");
        Tenuredale o = new Tenuredale();
        o.make(0, 0, 1);
        o.minor();
        Heaps.hang(o, 0, 0, 0, 0);
        Check.due("many(9)", o.many(9), 0);
        o.minor();
        place(o, 0, 2, 100);
        place(o, 1, 1, 0);
        Check.due("isDirty(0)", o.isDirty(0), true);

        Bound.of(13, "One that is PINNED is THERE, and does not move.");
        Tenuredale p = Heaps.withFourPinned();
        p.pop();
        for (int slot = 0; slot < 4; slot++) {
            p.put(slot, NONE);
        }
        Check.due("minor()", p.minor(), 0);
        for (int n = 0; n < 4; n++) {
            place(p, n, 2, 100 + 3 * n);
        }
        Check.due("TOUCHED", p.many(13), 0);
        Bound.of(13, "An OBJECT with 12 FIELDS or more is LARGE from the beginning on, and never moves");
        Tenuredale l = new Tenuredale();
        l.make(0, 4, 12);
        l.hash(0);
        l.put(0, NONE);
        Check.due("minor(): what is LARGE is not GONE by it", l.minor(), 0);
        place(l, 0, 3, 300);
        Check.due("AGE", l.ofObject(0, 3), 0);
        Check.due("SIZE", l.ofObject(0, 2), 14);
        Check.due("it does not rise", l.many(10), 0);
        Check.due("TOUCHED", l.many(13), 0);
    }

    private static void minorWeak() {
        String sentence = "have none any more (NONE).";
        Bound.of(13, sentence, "of one that moved");
        Tenuredale x = withReferent(1);
        Check.due("minor()", x.minor(), 1);
        Check.due("the REFERENT", x.field(0, 0), NONE);
        Bound.of(13, sentence, "of an OLD one");
        Tenuredale o = new Tenuredale();
        o.make(0, 1, 1);
        o.full(true);
        Heaps.hang(o, 0, 0, 0, 0);
        Check.due("isDirty(0)", o.isDirty(0), true);
        Check.due("minor()", o.minor(), 1);
        Check.due("the REFERENT", o.field(0, 0), NONE);
        Check.due("isDirty(0)", o.isDirty(0), false);
        Bound.of(13, sentence, "of a LARGE one that nothing refers to");
        Tenuredale l = withReferent(12);
        l.put(0, NONE);
        Check.due("minor()", l.minor(), 1);
        Check.due("the REFERENT", l.field(0, 0), NONE);
        Bound.of(13, sentence, "not of one whose REFERENT moved");
        Tenuredale y = withReferent(1);
        y.get(0, 0, 3);
        Check.due("minor()", y.minor(), 0);
        Check.due("the REFERENT", y.field(0, 0), 1);
        Bound.of(13, sentence, "nor of one whose REFERENT is OLD, and would be GONE");
        Tenuredale z = new Tenuredale();
        z.make(0, 1, 1);
        Heaps.hang(z, 0, 0, 0, 0);
        z.get(0, 0, 3);
        z.full(true);
        z.put(3, NONE);
        Check.due("minor()", z.minor(), 0);
        Check.due("the REFERENT", z.field(0, 0), 1);
        Check.due("full(true)", z.full(true), 1);
        Check.due("the REFERENT", z.field(0, 0), NONE);
        Bound.of(13, "The REFERENT of a WEAK one is never looked at for that.", "all other FIELDS are");
        Tenuredale w = new Tenuredale();
        w.make(0, 1, 2);
        w.make(1, 2, 1);
        w.make(2, 3, 2);
        Heaps.hang(w, 0, 1, 0, 0);
        Heaps.hang(w, 1, 0, 0, 0);
        Heaps.hang(w, 2, 0, 0, 0);
        Heaps.hang(w, 2, 1, 0, 0);
        w.get(2, 0, 3);
        w.set(0, 0, 3);
        w.set(2, 0, NONE);
        w.put(3, NONE);
        Check.due("minor()", w.minor(), 1);
        int[] due = {3, 4, 6};
        int[] got = {w.field(0, 1), w.field(1, 0), w.field(2, 1)};
        for (int n = 0; n < 3; n++) {
            Check.due("FIELD", got[n], due[n]);
            Check.due("THERE", w.ofObject(due[n], 0), 1);
        }
        Check.due("the REFERENT", w.field(0, 0), NONE);
    }

    /** A WEAK one with so many FIELDS in the SLOT 0, whose REFERENT nothing else refers to. */
    private static Tenuredale withReferent(int fields) {
        Tenuredale x = new Tenuredale();
        x.make(0, 1, fields);
        Heaps.hang(x, 0, 0, 0, 0);
        return x;
    }

    private static void minorFinal() {
        Bound.of(13, "(c) FINAL ones that are YOUNG and did not move, by number, are put into the QUEUE", "none");
        Tenuredale x = new Tenuredale();
        x.make(0, 4, 0);
        x.make(1, 4, 0);
        x.minor();
        x.minor();
        x.put(0, NONE);
        Check.due("one that is OLD", x.minor(), 0);
        Check.due("many(10)", x.many(10), 0);
        Check.due("KIND", x.ofObject(0, 7), 4);
        Check.due("KIND of one that moved", x.ofObject(1, 7), 4);
        Bound.of(13, "(c) FINAL ones that are YOUNG and did not move, by number, are put into the QUEUE",
            "not one that moved by a FIELD of one that did");
        Tenuredale f = new Tenuredale();
        f.make(0, 0, 1);
        Heaps.hang(f, 0, 0, 0, 1);
        f.get(0, 0, 1);
        Heaps.hang(f, 1, 0, 4, 0);
        f.get(1, 0, 2);
        f.make(3, 1, 1);
        f.set(3, 0, 2);
        f.put(1, NONE);
        f.put(2, NONE);
        Check.due("minor()", f.minor(), 0);
        Check.due("many(10)", f.many(10), 0);
        Check.due("KIND", f.ofObject(2, 7), 4);
        Check.due("the REFERENT", f.field(3, 0), 2);
        Bound.of(13, "(c) FINAL ones that are YOUNG and did not move, by number, are put into the QUEUE", "20, a HALF");
        Tenuredale y = new Tenuredale();
        for (int n = 0; n < 20; n++) {
            y.make(0, 4, 0);
        }
        y.put(0, NONE);
        Check.due("minor()", y.minor(), 0);
        Check.due("many(10)", y.many(10), 20);
        for (int n = 0; n < 20; n++) {
            Check.due("queue(" + n + ")", y.queue(n), n);
            Check.due("KIND", y.ofObject(n, 7), 0);
            place(y, n, 1, 40 + 2 * n);
        }
        Bound.of(13, "One that is put into the QUEUE is PLAIN from then on.", "it does not rise once more");
        for (int n = 0; n < 20; n++) {
            y.take(0);
        }
        y.put(0, NONE);
        Check.due("minor()", y.minor(), 20);
        Check.due("many(10)", y.many(10), 0);
        Bound.of(13, "move, and so do, behind all these, those to which they refer, as in (a). Then (b) once more.");
        Tenuredale z = new Tenuredale();
        z.make(0, 4, 1);
        Heaps.hang(z, 0, 0, 1, 2);
        z.get(0, 0, 1);
        Heaps.hang(z, 1, 0, 0, 0);
        int kept = Heaps.hang(z, 1, 1, 0, 0);
        z.make(2, 4, 0);
        for (int slot = 0; slot < 3; slot++) {
            z.put(slot, NONE);
        }
        Check.due("minor()", z.minor(), 1);
        Check.due("a REFERENT of one that rises", z.field(1, 0), NONE);
        Check.due("its FIELD", z.field(1, 1), kept);
        place(z, 0, 1, 40);
        place(z, 4, 1, 43);
        place(z, 1, 1, 45);
        place(z, 3, 1, 49);
        Bound.of(13, "have none any more (NONE)", "one of (b), as the REFERENT rises behind that");
        Tenuredale w = new Tenuredale();
        w.make(0, 1, 1);
        Heaps.hang(w, 0, 0, 4, 0);
        Check.due("minor()", w.minor(), 0);
        Check.due("the REFERENT", w.field(0, 0), NONE);
        Check.due("queue(0)", w.queue(0), 1);
    }

    private static void minorAmidMarking() {
        Bound.of(13, "A MINOR changes no colours (what is GONE by it has none any more).");
        Tenuredale x = new Tenuredale();
        x.make(0, 0, 1);
        Heaps.hang(x, 0, 0, 0, 0);
        x.make(1, 0, 1);
        Heaps.hang(x, 1, 0, 0, 0);
        x.make(2, 0, 0);
        x.make(3, 4, 0);
        x.put(3, NONE);
        x.start();
        x.step(1);
        x.put(2, NONE);
        Check.due("minor()", x.minor(), 1);
        int[] due = {2, 1, 1, 0, NONE, 0};
        for (int n = 0; n < due.length; n++) {
            Check.due("colour of " + n, x.ofObject(n, 6), due[n]);
        }
        Check.due("many(15), without the GREY one that is GONE", x.many(15), 2);
        Check.due("step(50)", x.step(50), 3);
        Bound.of(13, "Marking in steps has an end.", "as a FULL is done instead");
        Tenuredale y = Heaps.withEightLeft(7);
        y.start();
        y.minor();
        minorsAndFulls(y, 2, 1);
        Check.due("many(15)", y.many(15), 0);
        Bound.state("step(1)", () -> {
            Tenuredale z = Heaps.withEightLeft(7);
            z.start();
            z.minor();
            return z;
        }, z -> z.step(1));
    }

    // ---- Promise 14

    private static void fullOfLittle() {
        Bound.of(14, "Returns how many OBJECTS are GONE by that.", "an empty heap");
        for (boolean isSoftKept : new boolean[] {true, false}) {
            Tenuredale x = new Tenuredale();
            x.minor();
            Check.due("full", x.full(isSoftKept), 0);
            minorsAndFulls(x, 1, 1);
            Check.due("TOUCHED", x.many(13), 0);
            Check.due("OLD's words", x.many(6), 60);
            Check.due("TOP", x.many(5), 0);
            Check.due("many(4)", x.many(4), 0);
        }
        Bound.of(14, "Returns how many OBJECTS are GONE by that.", "all of a heap that is full");
        Tenuredale y = Heaps.withAllOfOld();
        for (int n = 0; n < 6; n++) {
            y.make(2, 0, 18);
            y.set(2, 0, 0);
            y.put(0, 2);
        }
        for (int n = 0; n < 20; n++) {
            y.make(1, 0, 0);
        }
        Check.due("many(1)", y.many(1), 86);
        for (int slot = 0; slot < 4; slot++) {
            y.put(slot, NONE);
        }
        Check.due("full(true)", y.full(true), 86);
        Check.due("many(1)", y.many(1), 0);
        Check.due("many(5)", y.many(5), 0);
        Check.due("many(7)", y.many(7), 0);
        Check.due("many(8)", y.many(8), 1);
        Check.due("TOUCHED", y.many(13), 0);
        Check.due("full(true) once more", y.full(true), 0);
    }

    private static void fullMarks() {
        String sentence = "MARKED is what FRAMES, GLOBALS and the QUEUE refer to, what is PINNED";
        Bound.of(14, sentence, "8 FRAMES, 4 GLOBALS");
        Tenuredale x = new Tenuredale();
        for (int global = 0; global < 4; global++) {
            x.make(0, 0, 0);
            x.swap(0, global);
        }
        for (int frames = 1; frames <= 8; frames++) {
            for (int slot = 0; slot < 4; slot++) {
                x.make(slot, 0, 0);
            }
            if (frames < 8) {
                x.push();
            }
        }
        Check.due("full(true)", x.full(true), 0);
        Check.due("many(1)", x.many(1), 36);
        x.pop();
        Check.due("full(true)", x.full(true), 4);
        Bound.of(14, sentence, "4 that are PINNED, and what they refer to");
        Tenuredale p = new Tenuredale();
        for (int n = 0; n < 4; n++) {
            p.make(0, 0, n == 3 ? 12 : 1);
            Heaps.hang(p, 0, 0, 0, 0);
            p.pin(0);
        }
        p.put(0, NONE);
        Check.due("full(false)", p.full(false), 0);
        Check.due("many(1)", p.many(1), 8);
        Bound.of(14, sentence, "the QUEUE");
        Tenuredale q = new Tenuredale();
        q.make(0, 4, 1);
        Heaps.hang(q, 0, 0, 0, 0);
        q.put(0, NONE);
        Check.due("full(true), it rises", q.full(true), 0);
        Check.due("full(true), it is in the QUEUE", q.full(true), 0);
        q.take(0);
        q.put(0, NONE);
        Check.due("full(true), it was taken", q.full(true), 2);
        Bound.of(14, "all to which the FIELDS of what is MARKED refer", "a chain of 60, and a circle");
        Tenuredale c = Heaps.withChain(60);
        Check.due("full(false)", c.full(false), 0);
        c.put(1, NONE);
        c.set(0, 0, NONE);
        Check.due("full(false)", c.full(false), 59);
        c.set(0, 0, 0);
        c.put(0, NONE);
        Check.due("one that refers to itself", c.full(false), 1);
    }

    private static void fullLetsGo() {
        Bound.of(14, "nor that of a SOFT one, if these are not kept");
        Tenuredale s = new Tenuredale();
        s.make(0, 2, 2);
        Heaps.hang(s, 0, 0, 0, 0);
        int kept = Heaps.hang(s, 0, 1, 0, 0);
        Check.due("full(true)", s.full(true), 0);
        Check.due("the REFERENT", s.field(0, 0), 1);
        Check.due("full(false)", s.full(false), 1);
        Check.due("the REFERENT", s.field(0, 0), NONE);
        Check.due("its FIELD", s.field(0, 1), kept);
        Bound.of(14, "(b) PAIRS that are MARKED, and whose KEY is not (or NONE), have neither KEY nor VALUE any more");
        Tenuredale x = new Tenuredale();
        x.make(0, 3, 2);
        Heaps.hang(x, 0, 0, 0, 0);
        x.make(1, 0, 0);
        x.set(0, 1, 1);
        Check.due("full(true)", x.full(true), 1);
        Check.due("KEY", x.field(0, 0), NONE);
        Check.due("VALUE, though it is MARKED", x.field(0, 1), NONE);
        Check.due("what it was", x.ofObject(2, 0), 2);
        Bound.of(14, "(b) PAIRS that are MARKED, and whose KEY is not (or NONE), have neither KEY nor VALUE any more",
            "the KEY is NONE");
        x.set(0, 1, 1);
        Check.due("full(true)", x.full(true), 0);
        Check.due("VALUE", x.field(0, 1), NONE);
        Bound.of(14, "nor the KEY of a PAIR, and its VALUE only if its KEY is MARKED",
            "the KEY is the VALUE, or the PAIR");
        x.make(2, 0, 0);
        x.set(0, 0, 2);
        x.set(0, 1, 2);
        x.put(2, NONE);
        Check.due("the KEY is the VALUE", x.full(true), 1);
        x.make(2, 0, 0);
        x.set(0, 0, 0);
        x.set(0, 1, 2);
        x.put(2, NONE);
        Check.due("the KEY is the PAIR", x.full(true), 0);
        Check.due("VALUE", x.field(0, 1), 4);
        Bound.of(14, "nor the KEY of a PAIR, and its VALUE only if its KEY is MARKED",
            "the FIELD behind them is as others are");
        Tenuredale t = new Tenuredale();
        t.make(0, 3, 3);
        Heaps.hang(t, 0, 0, 0, 0);
        Heaps.hang(t, 0, 1, 0, 0);
        Heaps.hang(t, 0, 2, 0, 0);
        Check.due("full(true)", t.full(true), 2);
        Check.due("the FIELD 2", t.field(0, 2), 3);
        Bound.of(14,
            "all WEAK ones (SOFT ones, too, if these are not kept), MARKED or not, whose REFERENT is not MARKED"
            + " have none any more.", "one that is not MARKED rises with its REFERENT");
        for (int kind = 1; kind <= 2; kind++) {
            Tenuredale w = new Tenuredale();
            w.make(0, 4, 2);
            Heaps.hang(w, 0, 0, kind, 1);
            w.get(0, 0, 1);
            int referent = Heaps.hang(w, 0, 1, 0, 0);
            w.get(0, 1, 2);
            w.set(1, 0, 2);
            w.put(0, NONE);
            w.put(1, NONE);
            w.put(2, NONE);
            Check.due("full(false)", w.full(false), 0);
            Check.due("the REFERENT", w.field(1, 0), NONE);
            Check.due("what it was", w.ofObject(referent, 0), 2);
        }
        Bound.of(14, "if these are not kept), MARKED or not", "kept: a SOFT one that rises with its REFERENT has it");
        Tenuredale k = new Tenuredale();
        k.make(0, 4, 1);
        Heaps.hang(k, 0, 0, 2, 1);
        k.get(0, 0, 1);
        int referent = Heaps.hang(k, 1, 0, 0, 0);
        k.put(0, NONE);
        k.put(1, NONE);
        Check.due("full(true)", k.full(true), 0);
        Check.due("the REFERENT", k.field(1, 0), referent);
    }

    private static void fullFinals() {
        Bound.of(14, "(c) FINAL ones that are not MARKED, by number, are put into the QUEUE", "none");
        Tenuredale x = new Tenuredale();
        x.make(0, 4, 0);
        x.make(1, 4, 12);
        Check.due("full(true)", x.full(true), 0);
        Check.due("many(10)", x.many(10), 0);
        Check.due("KIND", x.ofObject(0, 7), 4);
        Bound.of(14, "(c) FINAL ones that are not MARKED, by number, are put into the QUEUE",
            "not one that is MARKED by a FIELD of one that is");
        Tenuredale f = withHeldByFields();
        Check.due("full(true)", f.full(true), 0);
        Check.due("many(10)", f.many(10), 0);
        Check.due("KIND", f.ofObject(2, 7), 4);
        Check.due("a REFERENT", f.field(3, 0), 2);
        Check.due("a KEY", f.field(4, 0), 2);
        Bound.of(14, "(c) FINAL ones that are not MARKED, by number, are put into the QUEUE",
            "LARGE, OLD and YOUNG ones");
        Tenuredale y = new Tenuredale();
        y.make(0, 4, 12);
        y.make(1, 4, 0);
        y.full(true);
        y.make(2, 4, 0);
        for (int slot = 0; slot < 3; slot++) {
            y.put(slot, NONE);
        }
        Check.due("full(true)", y.full(true), 0);
        Check.due("many(10)", y.many(10), 3);
        for (int n = 0; n < 3; n++) {
            Check.due("queue(" + n + ")", y.queue(n), n);
            Check.due("KIND", y.ofObject(n, 7), 0);
        }
        Bound.of(14, "(c) FINAL ones that are not MARKED, by number, are put into the QUEUE",
            "one that another one refers to, too");
        Tenuredale z = new Tenuredale();
        z.make(0, 4, 1);
        z.make(1, 4, 0);
        z.set(0, 0, 1);
        z.put(0, NONE);
        z.put(1, NONE);
        z.full(true);
        Check.due("many(10)", z.many(10), 2);
        Bound.of(14, "(they are PLAIN from then on, too)", "they do not rise once more");
        z.take(0);
        z.take(0);
        z.put(0, NONE);
        Check.due("full(true)", z.full(true), 2);
        Check.due("many(10)", z.many(10), 0);
    }

    /**
     * 0, in the SLOT 0, refers to 1, that to the FINAL one 2; that is 3's REFERENT and 4's KEY, in the SLOTS 2 and 3.
     */
    private static Tenuredale withHeldByFields() {
        Tenuredale x = new Tenuredale();
        x.make(0, 0, 1);
        Heaps.hang(x, 0, 0, 0, 1);
        x.get(0, 0, 1);
        Heaps.hang(x, 1, 0, 4, 0);
        x.get(1, 0, 1);
        x.make(2, 1, 1);
        x.set(2, 0, 1);
        x.make(3, 3, 2);
        x.set(3, 0, 1);
        x.put(1, NONE);
        return x;
    }

    private static void onceMore(int promise) {
        Bound.of(promise, "Then (b) once more. What is not MARKED is GONE.", "a PAIR that rises without its KEY");
        Tenuredale x = new Tenuredale();
        x.make(0, 4, 1);
        Heaps.hang(x, 0, 0, 3, 2);
        x.get(0, 0, 1);
        Heaps.hang(x, 1, 0, 0, 0);
        Heaps.hang(x, 1, 1, 0, 0);
        x.put(0, NONE);
        x.put(1, NONE);
        Check.due("GONE", collect(promise, x), 2);
        Check.due("where the PAIR is", x.ofObject(1, 0), 2);
        Check.due("KEY", x.field(1, 0), NONE);
        Check.due("VALUE", x.field(1, 1), NONE);
        Bound.of(promise, "these and what follows from them, as in (a), is MARKED",
            "a SOFT one's REFERENT, as they are kept");
        Tenuredale y = new Tenuredale();
        y.make(0, 4, 1);
        Heaps.hang(y, 0, 0, 2, 1);
        y.get(0, 0, 1);
        Heaps.hang(y, 1, 0, 0, 0);
        y.put(0, NONE);
        y.put(1, NONE);
        Check.due("GONE", collect(promise, y), 0);
        Check.due("the REFERENT", y.field(1, 0), 2);
    }

    private static void fullSlides() {
        String sentence = "(d) OLD ones, by address: one that is not PINNED moves to the end of the one ahead of it";
        Bound.of(14, sentence, "if that is not its place already: it does not GROW");
        Tenuredale x = Heaps.withChain(3);
        x.hash(0);
        x.full(true);
        place(x, 2, 2, 106);
        Check.due("SIZE", x.ofObject(2, 2), 3);
        Check.due("TOUCHED", x.many(13), 9);
        Bound.of(14, "(the first one to the beginning of OLD)");
        x.put(1, NONE);
        x.set(0, 0, NONE);
        Check.due("full(true)", x.full(true), 2);
        place(x, 2, 2, 100);
        Check.due("SIZE, GROWN", x.ofObject(2, 2), 4);
        Check.due("TOP", x.many(5), 4);
        Check.due("TOUCHED", x.many(13), 8);
        Bound.of(14, "PINNED ones stay.", "the first one of OLD does, too");
        Tenuredale p = new Tenuredale();
        for (int slot = 0; slot < 4; slot++) {
            p.make(slot, 0, 1);
        }
        p.full(true);
        p.pin(1);
        p.hash(1);
        p.put(0, NONE);
        p.put(2, NONE);
        Check.due("full(true)", p.full(true), 2);
        place(p, 1, 2, 103);
        place(p, 3, 2, 106);
        Check.due("SIZE", p.ofObject(1, 2), 3);
        Check.due("TOP", p.many(5), 9);
        Bound.of(14, "TOP of OLD is the end of the last one.", "a PINNED one");
        p.put(3, NONE);
        p.put(1, NONE);
        Check.due("full(true)", p.full(true), 1);
        Check.due("TOP", p.many(5), 6);
        p.make(0, 0, 0);
        p.full(true);
        place(p, 4, 2, 106);
        Bound.of(14, "TOP of OLD is the end of the last one.", "there is none");
        Tenuredale n = Heaps.withChain(5);
        n.put(0, NONE);
        n.put(1, NONE);
        Check.due("full(true)", n.full(true), 5);
        Check.due("TOP", n.many(5), 0);
        Bound.of(14, sentence, "it GROWS up to just ahead of a PINNED one");
        Tenuredale g = new Tenuredale();
        g.make(0, 0, 0);
        g.make(1, 0, 2);
        g.make(2, 0, 0);
        g.make(3, 0, 0);
        g.full(true);
        g.pin(3);
        g.hash(1);
        g.hash(2);
        g.put(0, NONE);
        g.full(true);
        place(g, 1, 2, 100);
        place(g, 2, 2, 105);
        place(g, 3, 2, 108);
        Check.due("SIZE", g.ofObject(2, 2), 3);
        Check.due("TOP", g.many(5), 10);
        Bound.of(14, "is LARGE from the beginning on, and never moves");
        Tenuredale l = new Tenuredale();
        l.make(0, 0, 12);
        l.make(1, 0, 12);
        l.put(0, NONE);
        Check.due("full(true)", l.full(true), 1);
        place(l, 1, 3, 314);
        Check.due("many(8)", l.many(8), 2);
        Check.due("TOUCHED", l.many(13), 14);
    }

    // ---- Promises 14 and 17: (e) and (f) of a FULL

    private static int collect(int promise, Tenuredale x) {
        if (promise == 14) {
            return x.full(true);
        }
        x.start();
        return x.finish();
    }

    private static void fullTakesYoung(int promise) {
        String sentence = "(e) YOUNG ones: if all of them have room behind that, as they would be then, "
            + "they move there";
        Bound.of(promise, sentence, "just room");
        Tenuredale x = Heaps.withEightLeft(4);
        x.make(1, 0, 0);
        Check.due("GONE", collect(promise, x), 0);
        place(x, 4, 2, 152);
        place(x, 5, 2, 158);
        Check.due("TOP", x.many(5), 60);
        Check.due("OLD's words, behind that", x.many(6), 90);
        Check.due("AGE", x.ofObject(4, 3), 0);
        Check.due("TOUCHED", x.many(13), 68);
        Bound.of(promise, "otherwise none of them moves, and the TOP of the HALF stays", "a word too few");
        Tenuredale y = Heaps.withEightLeft(4);
        y.make(1, 0, 1);
        Check.due("GONE", collect(promise, y), 0);
        place(y, 4, 1, 0);
        place(y, 5, 1, 6);
        Check.due("TOP", y.many(5), 52);
        Check.due("many(3)", y.many(3), 9);
        Check.due("TOUCHED", y.many(13), 61);
        Bound.of(promise, "otherwise none of them moves, and the TOP of the HALF stays", "the last one is GONE");
        Tenuredale h = Heaps.withEightLeft(7);
        h.make(1, 0, 0);
        h.put(1, NONE);
        Check.due("GONE", collect(promise, h), 1);
        Check.due("many(3)", h.many(3), 11);
        Check.due("addressFor(0)", h.addressFor(0), 11);
        Bound.of(promise, sentence, "one would GROW");
        Tenuredale g = Heaps.withEightLeft(4);
        g.make(1, 0, 0);
        g.hash(1);
        collect(promise, g);
        place(g, 5, 1, 6);
        Check.due("SIZE", g.ofObject(5, 2), 2);
        Bound.of(promise, sentence, "room that OLD gets by (d)");
        Tenuredale d = Heaps.withEightLeft(9);
        d.make(1, 0, 8);
        d.pop();
        d.put(0, NONE);
        d.swap(1, 0);
        d.swap(2, 1);
        d.swap(3, 2);
        d.make(0, 0, 8);
        Check.due("GONE", collect(promise, d), 3);
        place(d, 6, 2, 139);
        Bound.of(promise, "and YOUNG is empty, with the HALF at 0 in use");
        Tenuredale e = new Tenuredale();
        e.make(0, 0, 0);
        e.minor();
        Check.due("many(4)", e.many(4), 40);
        collect(promise, e);
        Check.due("many(4)", e.many(4), 0);
        Check.due("many(3)", e.many(3), 0);
        Bound.of(promise, "and YOUNG is empty, with the HALF at 0 in use",
            "it was empty already, but for what is GONE");
        e.minor();
        e.make(1, 0, 0);
        e.put(1, NONE);
        collect(promise, e);
        Check.due("many(4)", e.many(4), 0);
        Check.due("many(3)", e.many(3), 0);
        Bound.of(promise, "CARDS are as at the end of a MINOR.", "as none moves");
        Tenuredale c = Heaps.withEightLeft(7);
        c.swap(0, 0);
        c.pop();
        c.swap(3, 0);
        c.set(0, 0, 3);
        c.set(1, 0, 3);
        c.set(1, 0, NONE);
        c.set(2, 0, 3);
        c.set(2, 0, NONE);
        Check.due("many(9)", c.many(9), 2);
        Check.due("GONE", collect(promise, c), 0);
        place(c, 4, 1, 0);
        Check.due("isDirty(0)", c.isDirty(0), true);
        Check.due("many(9)", c.many(9), 1);
        Bound.of(promise, "CARDS are as at the end of a MINOR.", "as all move");
        Check.due("GONE", collect(promise, c), 0);
        place(c, 4, 2, 152);
        Check.due("many(9)", c.many(9), 0);
    }

    private static void wordsOfOld(int promise) {
        String sentence = "if what is used of it (up to TOP) is more than 3 of 4";
        int[][] greater = {{60, 14, 3, 60}, {60, 14, 4, 90}, {90, 21, 4, 90}, {90, 21, 5, 120}, {120, 29, 3, 120},
            {120, 29, 4, 150}, {150, 36, 4, 150}, {150, 36, 5, 180}, {180, 44, 3, 180}, {180, 44, 4, 180},
            {180, 55, 11, 180}};
        for (int[] one : greater) {
            Bound.of(promise, sentence, 3 * one[1] + one[2] + " of " + one[0]);
            Tenuredale x = Heaps.withChain(one[1]);
            Check.due("OLD's words", x.many(6), one[0]);
            x.make(2, 0, one[2] - 2);
            Check.due("GONE", collect(promise, x), 0);
            Check.due("TOP", x.many(5), 3 * one[1] + one[2]);
            Check.due("OLD's words", x.many(6), one[3]);
        }
        sentence = "30 less, but not less than 60, nor than TOP, if it is less than 1 of 4";
        int[][] less = {{60, 15, 14, 60}, {60, 15, 15, 60}, {90, 20, 22, 60}, {90, 20, 23, 90}, {120, 30, 29, 90},
            {120, 30, 30, 120}, {150, 36, 37, 120}, {150, 36, 38, 150}, {180, 60, 44, 150}, {180, 60, 45, 180}};
        for (int[] one : less) {
            Bound.of(promise, sentence, one[2] + " of " + one[0]);
            Tenuredale x = Heaps.withChain(one[1]);
            Check.due("OLD's words", x.many(6), one[0]);
            x.put(1, NONE);
            x.get(0, 0, 2);
            x.set(2, 0, NONE);
            x.put(2, NONE);
            int left = one[2] - 6;
            for (int slot = 1; slot < 4 && left > 0; slot++) {
                int words = left == 14 ? 12 : Math.min(left, 13);
                x.make(slot, 0, words - 2);
                left -= words;
            }
            Check.due("words that are still to be made", left, 0);
            collect(promise, x);
            Check.due("TOP", x.many(5), one[2]);
            Check.due("OLD's words", x.many(6), one[3]);
        }
        Bound.of(promise, sentence, "nothing, from 180 words on");
        Tenuredale n = Heaps.withAllOfOld();
        n.put(0, NONE);
        n.put(1, NONE);
        for (int words : new int[] {150, 120, 90, 60, 60}) {
            collect(promise, n);
            Check.due("OLD's words", n.many(6), words);
        }
        Bound.of(promise, sentence, "a PINNED one at the end: what is used is up to TOP");
        Tenuredale p = Heaps.withAllOfOld();
        p.set(0, 0, NONE);
        p.pin(0);
        Check.due("GONE", collect(promise, p), 59);
        Check.due("TOP", p.many(5), 180);
        Check.due("OLD's words", p.many(6), 180);
        place(p, 59, 2, 277);
        p.unpin(0);
        collect(promise, p);
        Check.due("TOP", p.many(5), 3);
        Check.due("OLD's words", p.many(6), 150);
    }

    private static void fullAmidMarking() {
        Bound.of(14, "Marking in steps has an end.");
        Tenuredale x = Heaps.rich();
        Check.due("colour ahead", x.ofObject(8, 6), 1);
        x.full(true);
        Check.due("colour", x.ofObject(8, 6), NONE);
        Check.due("many(15)", x.many(15), 0);
        Supplier<Tenuredale> heap = () -> {
            Tenuredale y = Heaps.rich();
            y.full(true);
            return y;
        };
        Bound.state("step(1)", heap, y -> y.step(1));
        Bound.state("finish()", heap, y -> y.finish());
        Bound.of(14, "MARKED is what FRAMES, GLOBALS and the QUEUE refer to, what is PINNED", "not what is BLACK");
        Tenuredale z = new Tenuredale();
        z.make(0, 0, 0);
        z.start();
        z.step(1);
        z.put(0, NONE);
        Check.due("full(true)", z.full(true), 1);
    }

    // ---- Promise 15

    private static void start() {
        Bound.of(15, "Throws `IllegalStateException` if it goes on already");
        Bound.state("start()", Heaps::rich, x -> x.start());
        Bound.state("start() of nothing, begun", () -> {
            Tenuredale x = new Tenuredale();
            x.start();
            return x;
        }, x -> x.start());
        Bound.state("start() as none is GREY any more", () -> {
            Tenuredale x = Heaps.rich();
            x.step(50);
            return x;
        }, x -> x.start());
        Bound.state("start() behind a MINOR", () -> {
            Tenuredale x = Heaps.rich();
            x.minor();
            return x;
        }, x -> x.start());
        Bound.of(15, "Begins MARKING in steps.", "behind each of its ends");
        Tenuredale x = Heaps.withEightLeft(7);
        Check.due("start()", x.start(), 5);
        x.finish();
        Check.due("behind a FINISH", x.start(), 5);
        x.full(true);
        Check.due("behind a FULL", x.start(), 5);
        Tenuredale m = Heaps.withEightLeft(7);
        m.start();
        m.minor();
        Check.due("behind a MINOR that was a FULL", m.start(), 5);
        m.make(1, 0, 20);
        m.make(2, 0, 20);
        m.make(3, 0, 20);
        m.swap(1, 1);
        m.swap(2, 2);
        m.make(1, 0, 20);
        m.make(2, 0, 20);
        m.swap(3, 3);
        Check.due("make(3, 0, 20)", m.make(3, 0, 20), NONE);
        Check.due("behind a make without room", m.start(), 10);
        Bound.of(15, "Returns how many OBJECTS are GREY.", "an empty heap");
        Tenuredale e = new Tenuredale();
        Check.due("start()", e.start(), 0);
        Check.due("many(15)", e.many(15), 0);
        Check.due("step(50)", e.step(50), 0);
        Check.due("finish()", e.finish(), 0);
        Bound.of(15, "Returns how many OBJECTS are GREY.", "8 FRAMES, 4 GLOBALS, 4 that are PINNED, and the QUEUE");
        Tenuredale y = new Tenuredale();
        y.make(0, 4, 1);
        Heaps.hang(y, 0, 0, 0, 0);
        y.put(0, NONE);
        y.full(true);
        for (int n = 0; n < 4; n++) {
            y.make(0, 0, 0);
            y.swap(0, n);
            y.make(0, 0, 0);
            y.pin(0);
        }
        for (int frames = 1; frames <= 8; frames++) {
            for (int slot = 0; slot < 4; slot++) {
                y.make(slot, 0, 0);
            }
            if (frames < 8) {
                y.push();
            }
        }
        Check.due("start()", y.start(), 1 + 4 + 4 + 32);
        Check.due("the one in the QUEUE", y.ofObject(0, 6), 1);
        Check.due("what it refers to", y.ofObject(1, 6), 0);
        Bound.of(15, "Returns how many OBJECTS are GREY.", "one that many refer to");
        Tenuredale z = new Tenuredale();
        z.make(0, 0, 0);
        z.put(1, 0);
        z.put(2, 0);
        z.swap(2, 0);
        z.pin(0);
        Check.due("start()", z.start(), 1);
        Bound.of(15, "all OBJECTS are WHITE (0)", "what was BLACK in the MARKING ahead, too");
        z.step(50);
        z.make(3, 0, 0);
        Check.due("colour of what was made", z.ofObject(1, 6), 2);
        z.full(true);
        z.put(3, NONE);
        z.start();
        Check.due("colour of what was BLACK", z.ofObject(0, 6), 1);
        Check.due("colour of what was made", z.ofObject(1, 6), 0);
    }

    // ---- Promise 16

    private static void stepRefuses() {
        Bound.of(16, "Throws `IllegalArgumentException` if steps is not 1 to 50");
        for (int steps : new int[] {0, 51, NONE, MIN, MAX}) {
            Bound.argument("step(" + steps + ")", Heaps::rich, x -> x.step(steps));
        }
        Bound.of(16, "Throws `IllegalStateException` if it does not go on");
        Bound.state("step(1)", CollectorBoundsTest::richWithoutMarking, x -> x.step(1));
        Bound.state("step(50)", CollectorBoundsTest::richWithoutMarking, x -> x.step(50));
        Bound.state("step(1) behind a FINISH", () -> {
            Tenuredale x = Heaps.rich();
            x.finish();
            return x;
        }, x -> x.step(1));
        Bound.of(16, "If several exceptions apply, the one that is named first is thrown.");
        Bound.argument("step(0), it does not go on", CollectorBoundsTest::richWithoutMarking, x -> x.step(0));
        Bound.argument("step(51), it does not go on", CollectorBoundsTest::richWithoutMarking, x -> x.step(51));
    }

    private static Tenuredale richWithoutMarking() {
        Tenuredale x = Heaps.rich();
        x.full(true);
        x.make(0, 0, 2);
        return x;
    }

    private static void steps() {
        Bound.of(16, "Does steps of MARKING, as long as there is a GREY one.", "50 of 60");
        Tenuredale x = Heaps.withChain(60);
        x.start();
        Check.due("step(50)", x.step(50), 50);
        Check.due("colour of the 50th", x.ofObject(10, 6), 2);
        Check.due("colour of the 51st", x.ofObject(9, 6), 1);
        Check.due("colour of the 52nd", x.ofObject(8, 6), 0);
        Check.due("step(50), the others", x.step(50), 10);
        Check.due("many(15)", x.many(15), 0);
        Bound.of(16, "Does steps of MARKING, as long as there is a GREY one.", "just as many as there are");
        Tenuredale y = Heaps.withChain(50);
        y.start();
        Check.due("step(50)", y.step(50), 50);
        Check.due("many(15)", y.many(15), 0);
        Bound.of(16, "Does steps of MARKING, as long as there is a GREY one.", "none");
        Bound.still("step(50)", () -> {
            Tenuredale z = Heaps.rich();
            z.step(50);
            return z;
        }, z -> z.step(50), 0);
        Bound.still("step(1) of an empty heap", () -> {
            Tenuredale z = new Tenuredale();
            z.start();
            return z;
        }, z -> z.step(1), 0);
        Bound.of(16, "how many at most", "one");
        Tenuredale z = Heaps.withChain(3);
        z.start();
        for (int n = 2; n >= 0; n--) {
            Check.due("step(1)", z.step(1), 1);
            Check.due("colour of " + n, z.ofObject(n, 6), 2);
            Check.due("many(15)", z.many(15), n == 0 ? 0 : 1);
        }
        Check.due("step(1)", z.step(1), 0);
        Bound.of(16, "by each step (but those of a FINISH), of the one that became BLACK", "the last one of several");
        Tenuredale t = new Tenuredale();
        t.make(0, 0, 20);
        t.make(1, 0, 3);
        t.start();
        Check.due("step(2)", t.step(2), 2);
        Check.due("TOUCHED", t.many(13), 5);
        Check.due("many(14)", t.many(14), 22);
        t.step(2);
        Check.due("TOUCHED, without a step", t.many(13), 5);
    }

    private static void stepGreys() {
        Bound.of(16, "the GREY one with the smallest number becomes BLACK (2)");
        Tenuredale x = new Tenuredale();
        x.make(0, 0, 0);
        x.make(1, 0, 1);
        x.make(2, 0, 0);
        x.set(1, 0, 0);
        x.put(0, NONE);
        x.start();
        x.step(1);
        Check.due("colour of 1", x.ofObject(1, 6), 2);
        Check.due("colour of 0, that is GREY by that", x.ofObject(0, 6), 1);
        x.step(1);
        Check.due("colour of 0", x.ofObject(0, 6), 2);
        Check.due("colour of 2", x.ofObject(2, 6), 1);
        Bound.of(16, "what its FIELDS refer to becomes GREY, if it is WHITE (but not the REFERENT of a WEAK one)");
        Tenuredale y = new Tenuredale();
        y.make(0, 1, 2);
        y.make(1, 2, 1);
        y.make(2, 3, 2);
        int[] made = new int[5];
        made[0] = Heaps.hang(y, 0, 0, 0, 0);
        made[1] = Heaps.hang(y, 0, 1, 0, 0);
        made[2] = Heaps.hang(y, 1, 0, 0, 0);
        made[3] = Heaps.hang(y, 2, 0, 0, 0);
        made[4] = Heaps.hang(y, 2, 1, 0, 0);
        y.start();
        y.step(3);
        int[] due = {0, 1, 1, 1, 1};
        for (int n = 0; n < 5; n++) {
            Check.due("colour of " + made[n], y.ofObject(made[n], 6), due[n]);
        }
        Bound.of(16, "what its FIELDS refer to becomes GREY, if it is WHITE (but not the REFERENT of a WEAK one)",
            "itself, or a BLACK one");
        Tenuredale z = new Tenuredale();
        z.make(0, 0, 1);
        z.set(0, 0, 0);
        z.make(1, 0, 1);
        z.set(1, 0, 0);
        z.start();
        Check.due("step(50)", z.step(50), 2);
        Check.due("colour of 0", z.ofObject(0, 6), 2);
    }

    // ---- Promise 17

    private static void finish() {
        Bound.of(17, "Throws `IllegalStateException` if it does not go on");
        Bound.state("finish()", CollectorBoundsTest::richWithoutMarking, x -> x.finish());
        Bound.state("finish() behind a FINISH", () -> {
            Tenuredale x = Heaps.rich();
            x.finish();
            return x;
        }, x -> x.finish());
        Bound.state("finish() behind a make by a FULL", () -> {
            Tenuredale x = Heaps.withEightLeft(7);
            x.start();
            x.make(1, 0, 11);
            x.make(2, 0, 11);
            x.make(3, 0, 11);
            return x;
        }, x -> x.finish());
        Bound.of(17, "Returns how many OBJECTS are GONE by that.", "an empty heap");
        Tenuredale e = new Tenuredale();
        e.minor();
        e.start();
        Check.due("finish()", e.finish(), 0);
        minorsAndFulls(e, 1, 1);
        Check.due("TOUCHED", e.many(13), 0);
        Check.due("many(4)", e.many(4), 0);
        Bound.of(17, "Returns how many OBJECTS are GONE by that.", "all that are WHITE");
        Tenuredale w = Heaps.withAllOfOld();
        w.put(0, NONE);
        w.put(1, NONE);
        Check.due("start()", w.start(), 0);
        Check.due("finish()", w.finish(), 60);
        Check.due("many(1)", w.many(1), 0);
        Bound.of(17, "steps, till none is GREY", "60 of them, at once");
        Tenuredale c = Heaps.withChain(60);
        c.start();
        Check.due("finish()", c.finish(), 0);
        Check.due("many(1)", c.many(1), 60);
        Check.due("TOUCHED", c.many(13), 180);
        minorsAndFulls(c, 0, 61);
        Bound.of(17, "steps, till none is GREY", "none is ahead");
        Tenuredale n = Heaps.withChain(3);
        n.start();
        n.step(50);
        n.put(0, NONE);
        n.put(1, NONE);
        Check.due("finish(): what was BLACK stays", n.finish(), 0);
        Check.due("full(true)", n.full(true), 3);
        Bound.of(17, "Marking in steps has an end.");
        Check.due("many(15)", c.many(15), 0);
        Check.due("colour", c.ofObject(0, 6), NONE);
        Check.throwsState("step(1)", () -> c.step(1));
    }

    private static void finishMarks() {
        String sentence = "what FRAMES, GLOBALS and the QUEUE refer to, and what is PINNED, becomes GREY, "
            + "if it is WHITE";
        Bound.of(17, sentence, "8 FRAMES, 4 GLOBALS, 4 that are PINNED");
        Tenuredale x = new Tenuredale();
        x.make(0, 0, 20);
        for (int field = 0; field < 15; field++) {
            Heaps.hang(x, 0, field, 0, 0);
        }
        x.start();
        for (int n = 0; n < 3; n++) {
            x.get(0, n, 1);
            x.swap(1, n);
        }
        for (int n = 3; n < 7; n++) {
            x.get(0, n, 1);
            x.pin(1);
        }
        for (int n = 7; n < 15; n++) {
            x.get(0, n, 1);
            if (n < 14) {
                x.swap(0, 3);
                x.push();
                x.swap(0, 3);
            }
        }
        for (int field = 0; field < 15; field++) {
            x.set(0, field, NONE);
        }
        x.swap(0, 3);
        Check.due("many(2)", x.many(2), 8);
        Check.due("many(15)", x.many(15), 1);
        Check.due("finish()", x.finish(), 0);
        Check.due("many(1)", x.many(1), 16);
        Bound.of(17, sentence, "one that a SLOT took out of a FIELD that is NONE by now");
        Tenuredale y = new Tenuredale();
        y.make(0, 0, 1);
        Heaps.hang(y, 0, 0, 0, 1);
        y.start();
        y.get(0, 0, 1);
        y.set(0, 0, NONE);
        Heaps.hang(y, 1, 0, 0, 0);
        for (int frames = 2; frames <= 8; frames++) {
            y.push();
        }
        Check.due("colour", y.ofObject(1, 6), 0);
        Check.due("finish()", y.finish(), 0);
        Check.due("many(1)", y.many(1), 3);
        Bound.of(17, "then (b) to (f) of a FULL with SOFT ones kept, with what is BLACK as MARKED");
        Tenuredale z = new Tenuredale();
        z.make(0, 1, 1);
        Heaps.hang(z, 0, 0, 0, 0);
        z.make(1, 2, 1);
        int soft = Heaps.hang(z, 1, 0, 0, 0);
        z.make(2, 3, 2);
        int key = Heaps.hang(z, 2, 0, 0, 0);
        int value = Heaps.hang(z, 2, 1, 0, 0);
        z.make(3, 4, 0);
        z.put(3, NONE);
        z.start();
        Check.due("finish()", z.finish(), 1);
        Check.due("a WEAK one's REFERENT", z.field(0, 0), NONE);
        Check.due("a SOFT one's REFERENT", z.field(2, 0), soft);
        Check.due("a KEY that no other refers to, BLACK all the same", z.field(4, 0), key);
        Check.due("a VALUE", z.field(4, 1), value);
        Check.due("queue(0)", z.queue(0), 7);
        Bound.of(17, "What is made meanwhile is BLACK.", "and so THERE behind it, without a SLOT");
        Tenuredale m = new Tenuredale();
        m.start();
        m.make(0, 4, 0);
        m.make(0, 0, 12);
        m.put(0, NONE);
        Check.due("finish()", m.finish(), 0);
        Check.due("many(1)", m.many(1), 2);
        Check.due("many(10)", m.many(10), 0);
        Check.due("KIND", m.ofObject(0, 7), 4);
    }

    // ---- Promise 18

    private static void tenure() {
        Bound.of(18, "Throws `IllegalArgumentException` if tenure is not 1 to 9");
        for (int tenure : new int[] {0, 10, NONE, MIN, MAX}) {
            Bound.argument("tenure(" + tenure + ")", Heaps::rich, x -> x.tenure(tenure));
            Bound.argument("tenure(" + tenure + ") on a new one", Tenuredale::new, x -> x.tenure(tenure));
        }
        Bound.of(18, "Returns the one before.", "from 1 to 9");
        Tenuredale x = new Tenuredale();
        int before = 2;
        for (int tenure : new int[] {1, 9, 1, 2, 3, 4, 5, 6, 7, 8, 9}) {
            Check.due("tenure(" + tenure + ")", x.tenure(tenure), before);
            before = tenure;
        }
        Bound.still("tenure(3), that it is already", Heaps::rich, y -> y.tenure(3), 3);
    }
}
