import java.math.BigInteger;
import java.util.function.Supplier;

/** Promises 19 to 30 at their boundaries; each test names the sentence that it holds. */
public final class AskedBoundsTest {
    private static final int NONE = -1;
    private static final int MIN = Integer.MIN_VALUE;
    private static final int MAX = Integer.MAX_VALUE;
    private static final int[] NO_SLOTS = {NONE, 4, MIN, MAX};

    /** None of these was made on the heap Heaps.rich(), on which 0 to 10 were. */
    private static final int[] NO_OBJECTS = {NONE, 11, 200, MIN, MAX};

    private AskedBoundsTest() { }

    public static void main(String[] args) {
        at();
        field();
        ofObjectRefuses();
        ofObject();
        manyRefuses();
        manyOfLittle();
        manyOfMuch();
        isDirty();
        queue();
        meanSize();
        isReachable();
        wouldFree();
        held();
        addressFor();
        digest();
        Bound.end(19, 30);
    }

    /** One that is GONE, with 3 FIELDS that had something. */
    private static Tenuredale withOneGone() {
        Tenuredale x = new Tenuredale();
        x.make(0, 0, 3);
        for (int field = 0; field < 3; field++) {
            x.set(0, field, 0);
        }
        x.hash(0);
        x.put(0, NONE);
        x.minor();
        return x;
    }

    private static void at() {
        Bound.of(19, "Throws `IndexOutOfBoundsException` if there is no such SLOT");
        for (int slot : NO_SLOTS) {
            Bound.index("at(" + slot + ")", Heaps::rich, x -> x.at(slot));
            Bound.index("at(" + slot + ") of a new one", Tenuredale::new, x -> x.at(slot));
        }
        Bound.of(19, "Returns the OBJECT to which it refers (NONE).");
        int[] due = {8, NONE, 10, NONE};
        for (int slot = 0; slot < 4; slot++) {
            int one = slot;
            Bound.still("at(" + slot + ")", Heaps::rich, x -> x.at(one), due[slot]);
        }
        Bound.of(19, "SLOTS that are told are those of the last FRAME.", "the 8th, and the first");
        Tenuredale x = Heaps.richWithFrames(8);
        x.make(3, 0, 0);
        Check.due("at(3)", x.at(3), x.many(0) - 1);
        for (int frames = 7; frames >= 1; frames--) {
            x.pop();
        }
        int[] first = {0, 3, 6, NONE};
        for (int slot = 0; slot < 4; slot++) {
            Check.due("at(" + slot + ")", x.at(slot), first[slot]);
        }
    }

    private static void field() {
        Bound.of(20, "Throws `IndexOutOfBoundsException` if there was no such OBJECT, or it has no such FIELD");
        for (int object : NO_OBJECTS) {
            Bound.index("field(" + object + ", 0)", Heaps::rich, x -> x.field(object, 0));
            Bound.index("field(" + object + ", -1)", Heaps::rich, x -> x.field(object, NONE));
        }
        Bound.index("field(0, 0) of a new one", Tenuredale::new, x -> x.field(0, 0));
        Bound.of(20, "or it has no such FIELD");
        for (int field : new int[] {NONE, 3, MIN, MAX}) {
            Bound.index("field(0, " + field + ")", Heaps::rich, x -> x.field(0, field));
        }
        for (int fields : new int[] {0, 1, 11, 12, 20}) {
            Supplier<Tenuredale> heap = () -> {
                Tenuredale x = new Tenuredale();
                x.make(0, 0, fields);
                return x;
            };
            Bound.index("field(0, " + fields + ")", heap, x -> x.field(0, fields));
            if (fields > 0) {
                Bound.still("field(0, " + (fields - 1) + ")", heap, x -> x.field(0, fields - 1), NONE);
            }
        }
        Bound.of(20, "(NONE; so of each FIELD of one that is GONE)");
        for (int field = 0; field < 3; field++) {
            int one = field;
            Bound.still("field(0, " + field + ")", AskedBoundsTest::withOneGone, x -> x.field(0, one), NONE);
        }
        Bound.of(20, "or it has no such FIELD", "one that is GONE");
        for (int field : new int[] {NONE, 3, MIN, MAX}) {
            Bound.index("field(0, " + field + ")", AskedBoundsTest::withOneGone, x -> x.field(0, field));
        }
        Bound.of(20, "if there was no such OBJECT", "200 were made");
        Bound.still("field(199, 0)", Heaps::withAllMade, x -> x.field(199, 0), NONE);
        Bound.index("field(200, 0)", Heaps::withAllMade, x -> x.field(200, 0));
        Bound.of(20, "if there was no such OBJECT", "one that was not made, as there was no room");
        Tenuredale x = withAllOfLarge();
        Check.due("make(0, 0, 12)", x.make(0, 0, 12), NONE);
        Check.throwsIndex("field(6, 0)", () -> x.field(6, 0));
    }

    /** LARGE is full with six of 20 words, in GLOBALS 0 and 1 and the SLOTS. */
    private static Tenuredale withAllOfLarge() {
        Tenuredale x = new Tenuredale();
        for (int global = 0; global < 2; global++) {
            x.make(0, 0, 18);
            x.swap(0, global);
        }
        for (int slot = 0; slot < 4; slot++) {
            x.make(slot, 0, 18);
        }
        return x;
    }

    private static void ofObjectRefuses() {
        Bound.of(21, "Throws `IndexOutOfBoundsException` if there was no such OBJECT");
        for (int object : NO_OBJECTS) {
            Bound.index("ofObject(" + object + ", 0)", Heaps::rich, x -> x.ofObject(object, 0));
        }
        Bound.index("ofObject(0, 0) of a new one", Tenuredale::new, x -> x.ofObject(0, 0));
        Bound.still("ofObject(199, 0)", Heaps::withAllMade, x -> x.ofObject(199, 0), 2);
        Bound.index("ofObject(200, 0)", Heaps::withAllMade, x -> x.ofObject(200, 0));
        Bound.of(21, "Throws `IllegalArgumentException` if what is not 0 to 7");
        for (int what : new int[] {NONE, 8, MIN, MAX}) {
            Bound.argument("ofObject(0, " + what + ")", Heaps::rich, x -> x.ofObject(0, what));
            Bound.argument("ofObject(0, " + what + ") of one that is GONE", AskedBoundsTest::withOneGone,
                x -> x.ofObject(0, what));
        }
        Bound.of(21, "If several exceptions apply, the one that is named first is thrown.");
        for (int what : new int[] {NONE, 8, MIN, MAX}) {
            Bound.index("ofObject(11, " + what + ")", Heaps::rich, x -> x.ofObject(11, what));
            Bound.index("ofObject(-1, " + what + ")", Heaps::rich, x -> x.ofObject(NONE, what));
        }
    }

    private static void ofObject() {
        Bound.of(21, "of all that are GONE 0 with 0, NONE with all others");
        for (int what = 0; what < 8; what++) {
            int one = what;
            Bound.still("ofObject(0, " + what + ")", AskedBoundsTest::withOneGone, x -> x.ofObject(0, one),
                what == 0 ? 0 : NONE);
            Bound.still("ofObject(7, " + what + ") amid MARKING", Heaps::rich, x -> x.ofObject(7, one),
                what == 0 ? 0 : NONE);
        }
        Bound.of(21, "4 its HASH (NONE)");
        Tenuredale x = new Tenuredale();
        x.make(0, 0, 0);
        Check.due("ahead of that", x.ofObject(0, 4), NONE);
        x.hash(0);
        Check.due("the first one", x.ofObject(0, 4), 0);
        Bound.of(21, "6 its colour in steps of MARKING (NONE, if that does not go on)");
        Check.due("ahead of that", x.ofObject(0, 6), NONE);
        x.start();
        Check.due("GREY", x.ofObject(0, 6), 1);
        x.step(1);
        Check.due("BLACK", x.ofObject(0, 6), 2);
        x.finish();
        Check.due("behind that", x.ofObject(0, 6), NONE);
        x.put(0, NONE);
        x.start();
        Check.due("WHITE", x.ofObject(0, 6), 0);
        Bound.of(21, "3 its AGE (how often it moved in a MINOR)", "not by a FULL, nor as it was PINNED");
        Tenuredale y = new Tenuredale();
        y.make(0, 0, 0);
        y.make(1, 0, 0);
        y.minor();
        y.pin(1);
        y.full(true);
        y.minor();
        Check.due("AGE", y.ofObject(0, 3), 1);
        Check.due("AGE", y.ofObject(1, 3), 1);
        Bound.of(21, "0 where it is: 0 GONE, 1 YOUNG, 2 OLD, 3 LARGE", "one of 11 FIELDS and one of 12");
        Tenuredale z = new Tenuredale();
        z.make(0, 0, 11);
        z.make(1, 0, 12);
        int[][] due = {{1, 0, 13, 0, NONE, 0, NONE, 0}, {3, 300, 14, 0, NONE, 0, NONE, 0}};
        for (int n = 0; n < 2; n++) {
            for (int what = 0; what < 8; what++) {
                Check.due("ofObject(" + n + ", " + what + ")", z.ofObject(n, what), due[n][what]);
            }
        }
    }

    private static void manyRefuses() {
        Bound.of(22, "Throws `IllegalArgumentException` if what is not 0 to 15");
        for (int what : new int[] {NONE, 16, MIN, MAX}) {
            Bound.argument("many(" + what + ")", Heaps::rich, x -> x.many(what));
            Bound.argument("many(" + what + ") of a new one", Tenuredale::new, x -> x.many(what));
        }
        int[] due = {11, 10, 2, 32, 40, 5, 60, 14, 1, 1, 1, 1, 0, 3, 23, 6};
        for (int what = 0; what < 16; what++) {
            int one = what;
            Bound.still("many(" + what + ")", Heaps::rich, x -> x.many(one), due[what]);
        }
    }

    private static void manyOfLittle() {
        Bound.of(22, "(0 ahead of all)");
        Tenuredale x = new Tenuredale();
        x.make(0, 0, 1);
        x.make(1, 0, 12);
        x.pin(0);
        x.start();
        Check.due("many(13)", x.many(13), 0);
        Check.due("many(14)", x.many(14), 0);
        Bound.of(22, "14 the most that one of them did");
        x.step(2);
        Check.due("many(13)", x.many(13), 14);
        Check.due("many(14)", x.many(14), 14);
        x.put(0, NONE);
        x.put(1, NONE);
        x.minor();
        Check.due("many(13)", x.many(13), 0);
        Check.due("many(14)", x.many(14), 14);
        x.full(true);
        Check.due("many(13)", x.many(13), 3);
        Check.due("many(14)", x.many(14), 14);
        Bound.of(22, "8 how many gaps there are in it");
        int[] due = {1, 2, 3, 4, 5, 1};
        Tenuredale y = new Tenuredale();
        for (int global = 0; global < 4; global++) {
            y.make(0, 0, 12);
            y.make(1, 0, 12);
            y.swap(1, global);
            y.put(global == 0 ? 1 : 0, NONE);
        }
        Check.due("gaps ahead", y.many(8), due[0]);
        Check.due("GONE", y.full(true), 4);
        Check.due("the most gaps: between four and behind them", y.many(8), 5);
        for (int n = 4; n >= 1; n--) {
            y.make(0, 0, 12);
            Check.due("gaps", y.many(8), n);
        }
        y.put(0, NONE);
        for (int global = 0; global < 4; global++) {
            y.swap(0, global);
            y.put(0, NONE);
        }
        y.full(true);
        Check.due("one, as LARGE is empty", y.many(8), 1);
        Check.due("many(7)", y.many(7), 0);
    }

    private static void manyOfMuch() {
        Bound.of(22, "3 words that are used in the HALF in use (up to TOP), 4 the address of its beginning", "40");
        Tenuredale x = new Tenuredale();
        x.minor();
        for (int n = 0; n < 20; n++) {
            x.make(0, 0, 0);
        }
        Check.due("many(3)", x.many(3), 40);
        Check.due("many(4)", x.many(4), 40);
        Bound.of(22, "5 words of OLD up to its TOP, 6 how many words OLD has", "180");
        Tenuredale y = Heaps.withAllOfOld();
        Check.due("many(5)", y.many(5), 180);
        Check.due("many(6)", y.many(6), 180);
        Bound.of(22, "7 words that are used in LARGE, 8 how many gaps there are in it", "120");
        Check.due("many(7)", withAllOfLarge().many(7), 120);
        Check.due("many(8)", withAllOfLarge().many(8), 0);
        Bound.of(22, "0 OBJECTS that were made, 1 that are THERE", "200, and 1");
        Check.due("many(0)", Heaps.withAllMade().many(0), 200);
        Check.due("many(1)", Heaps.withAllMade().many(1), 1);
        Bound.of(22, "2 FRAMES", "8");
        Check.due("many(2)", Heaps.richWithFrames(8).many(2), 8);
        Bound.of(22, "9 CARDS that are DIRTY", "all 20");
        Tenuredale d = withAllDirty();
        Check.due("many(9)", d.many(9), 20);
        Bound.of(22, "10 how many are in the QUEUE", "20, and none");
        Tenuredale q = new Tenuredale();
        for (int n = 0; n < 20; n++) {
            q.make(0, 4, 0);
        }
        q.put(0, NONE);
        q.minor();
        for (int n = 20; n >= 0; n--) {
            Check.due("many(10)", q.many(10), n);
            q.take(0);
        }
        Bound.of(22, "15 how many are GREY", "if MARKING does not go on");
        Tenuredale g = Heaps.rich();
        g.full(true);
        Check.due("many(15)", g.many(15), 0);
    }

    /** One of OLD (which is full) or LARGE on each CARD refers to a YOUNG one. */
    private static Tenuredale withAllDirty() {
        Tenuredale x = Heaps.withAllOfOld();
        x.make(3, 0, 0);
        for (int n = 0; n < 60; n++) {
            x.get(0, 0, 2);
            x.set(0, 0, 3);
            x.put(0, 2);
        }
        for (int fields : new int[] {12, 12, 12, 12, 14, 14, 14, 12}) {
            x.make(1, 0, fields);
            x.set(1, 0, 3);
        }
        return x;
    }

    private static void isDirty() {
        Bound.of(23, "Throws `IndexOutOfBoundsException` if there is no such CARD");
        for (int card : new int[] {NONE, 20, MIN, MAX}) {
            Bound.index("isDirty(" + card + ")", Heaps::rich, x -> x.isDirty(card));
            Bound.index("isDirty(" + card + ") of a new one", Tenuredale::new, x -> x.isDirty(card));
        }
        Bound.of(23, "Returns whether it is DIRTY.", "none, one, all");
        Tenuredale all = withAllDirty();
        Tenuredale none = new Tenuredale();
        for (int card = 0; card < 20; card++) {
            int one = card;
            Bound.still("isDirty(" + card + ")", Heaps::rich, x -> x.isDirty(one) ? 1 : 0, card == 0 ? 1 : 0);
            Check.due("isDirty(" + card + ") of none", none.isDirty(card), false);
            Check.due("isDirty(" + card + ") of all", all.isDirty(card), true);
        }
    }

    private static void queue() {
        Bound.of(24, "Throws `IndexOutOfBoundsException` if there is no such place");
        for (int place : new int[] {NONE, 1, 200, MIN, MAX}) {
            Bound.index("queue(" + place + ")", Heaps::rich, x -> x.queue(place));
        }
        for (int place : new int[] {NONE, 0, 1, MIN, MAX}) {
            Bound.index("queue(" + place + ") of an empty one", Tenuredale::new, x -> x.queue(place));
            Bound.index("queue(" + place + ") of one that has become empty", () -> {
                Tenuredale x = Heaps.rich();
                x.take(3);
                return x;
            }, x -> x.queue(place));
        }
        Bound.of(24, "a place in the QUEUE, from 0", "the first and the last");
        Bound.still("queue(0)", Heaps::rich, x -> x.queue(0), 4);
        Tenuredale x = new Tenuredale();
        for (int n = 0; n < 20; n++) {
            x.make(0, 4, 0);
        }
        x.put(0, NONE);
        x.full(true);
        Check.due("queue(19)", x.queue(19), 19);
        Check.throwsIndex("queue(20)", () -> x.queue(20));
        x.take(0);
        Check.due("queue(0)", x.queue(0), 1);
        Check.due("queue(18)", x.queue(18), 19);
        Check.throwsIndex("queue(19)", () -> x.queue(19));
    }

    private static void meanSize() {
        Bound.of(25, "0 without any");
        Check.due("a new one", new Tenuredale().meanSize(), 0.0);
        Check.due("all are GONE", withOneGone().meanSize(), 0.0);
        Bound.of(25, "Returns the mean SIZE of the OBJECTS that are THERE, not cut");
        Tenuredale x = new Tenuredale();
        x.make(0, 0, 0);
        Check.due("one", x.meanSize(), 2.0);
        x.make(1, 0, 1);
        Check.due("two", x.meanSize(), 2.5);
        x.make(2, 0, 0);
        Check.due("three", x.meanSize(), 7.0 / 3);
        x.make(2, 0, 20);
        Check.due("with a LARGE one", x.meanSize(), 29.0 / 4);
        x.minor();
        Check.due("without one that is GONE", x.meanSize(), 9.0);
        Check.due("200, of which one is THERE", Heaps.withAllMade().meanSize(), 3.0);
    }

    private static void isReachable() {
        Bound.of(26, "Throws `IndexOutOfBoundsException` if there was no such OBJECT");
        for (int object : NO_OBJECTS) {
            Bound.index("isReachable(" + object + ")", Heaps::rich, x -> x.isReachable(object));
        }
        Bound.index("isReachable(0) of a new one", Tenuredale::new, x -> x.isReachable(0));
        Bound.still("isReachable(199)", Heaps::withAllMade, x -> x.isReachable(199) ? 1 : 0, 1);
        Bound.index("isReachable(200)", Heaps::withAllMade, x -> x.isReachable(200));
        Bound.of(26, "Returns whether it would be MARKED by (a) of a FULL with SOFT ones kept.", "one that is GONE");
        Bound.still("isReachable(0)", AskedBoundsTest::withOneGone, x -> x.isReachable(0) ? 1 : 0, 0);
        Bound.still("isReachable(0) of 200", Heaps::withAllMade, x -> x.isReachable(0) ? 1 : 0, 0);
        Bound.of(26, "Returns whether it would be MARKED by (a) of a FULL with SOFT ones kept.", "of each KIND");
        Tenuredale x = new Tenuredale();
        x.make(0, 1, 1);
        Heaps.hang(x, 0, 0, 0, 0);
        x.make(1, 2, 1);
        Heaps.hang(x, 1, 0, 0, 0);
        x.make(2, 3, 2);
        Heaps.hang(x, 2, 0, 0, 0);
        Heaps.hang(x, 2, 1, 0, 0);
        x.make(3, 4, 0);
        x.put(3, NONE);
        boolean[] due = {true, false, true, true, true, false, false, false};
        for (int n = 0; n < due.length; n++) {
            Check.due("isReachable(" + n + ")", x.isReachable(n), due[n]);
        }
        Bound.of(26, "MARKED is what FRAMES, GLOBALS and the QUEUE refer to, what is PINNED", "not what is BLACK");
        Tenuredale y = new Tenuredale();
        y.make(0, 0, 0);
        y.start();
        y.step(1);
        y.put(0, NONE);
        Check.due("isReachable(0)", y.isReachable(0), false);
        Bound.of(26, "MARKED is what FRAMES, GLOBALS and the QUEUE refer to, what is PINNED", "each of 4");
        Tenuredale p = Heaps.withFourPinned();
        p.pop();
        for (int slot = 0; slot < 4; slot++) {
            p.put(slot, NONE);
            p.make(0, 0, 0);
            p.swap(0, slot);
        }
        for (int slot = 0; slot < 4; slot++) {
            p.make(slot, 4, 0);
            p.put(slot, NONE);
        }
        p.minor();
        Check.due("many(10)", p.many(10), 4);
        for (int n = 0; n < 12; n++) {
            Check.due("isReachable(" + n + ")", p.isReachable(n), true);
        }
        Check.due("wouldFree(false)", p.wouldFree(false), 0);
        Bound.of(26, "all to which the FIELDS of what is MARKED refer", "a chain of 60, from the 8th FRAME");
        Tenuredale c = Heaps.withChain(60);
        c.put(1, NONE);
        c.swap(0, 0);
        for (int frames = 2; frames <= 8; frames++) {
            c.push();
        }
        c.swap(0, 0);
        Check.due("isReachable(0)", c.isReachable(0), true);
        c.pop();
        Check.due("isReachable(0)", c.isReachable(0), false);
    }

    private static void wouldFree() {
        String sentence = "Returns how many words (SIZES, as they are) of OBJECTS would be GONE by such a FULL.";
        Bound.of(27, sentence, "none");
        Bound.still("wouldFree(true) of a new one", Tenuredale::new, x -> x.wouldFree(true), 0);
        Bound.still("wouldFree(false) of a new one", Tenuredale::new, x -> x.wouldFree(false), 0);
        Bound.still("wouldFree(false) of what is GONE already", AskedBoundsTest::withOneGone,
            x -> x.wouldFree(false), 0);
        Bound.of(27, sentence, "all");
        Supplier<Tenuredale> heap = () -> {
            Tenuredale x = Heaps.withAllOfOld();
            x.make(2, 0, 20);
            for (int n = 0; n < 20; n++) {
                x.make(3, 0, 0);
            }
            for (int slot = 0; slot < 4; slot++) {
                x.put(slot, NONE);
            }
            return x;
        };
        Bound.still("wouldFree(true)", heap, x -> x.wouldFree(true), 180 + 22 + 40);
        Bound.of(27, sentence, "not GROWN, as they are not yet");
        Tenuredale g = new Tenuredale();
        g.make(0, 0, 0);
        g.hash(0);
        g.put(0, NONE);
        Check.due("wouldFree(true)", g.wouldFree(true), 2);
        Bound.of(27, "whether SOFT ones are kept");
        Supplier<Tenuredale> soft = () -> {
            Tenuredale x = new Tenuredale();
            x.make(0, 2, 1);
            Heaps.hang(x, 0, 0, 0, 0);
            return x;
        };
        Bound.still("wouldFree(true)", soft, x -> x.wouldFree(true), 0);
        Bound.still("wouldFree(false)", soft, x -> x.wouldFree(false), 2);
        Bound.of(27, "(c) FINAL ones that are not MARKED, by number, are put into the QUEUE", "and so are not GONE");
        Supplier<Tenuredale> risen = () -> {
            Tenuredale x = new Tenuredale();
            x.make(0, 4, 1);
            Heaps.hang(x, 0, 0, 0, 11);
            x.put(0, NONE);
            return x;
        };
        Bound.still("wouldFree(false)", risen, x -> x.wouldFree(false), 0);
        Supplier<Tenuredale> risenOld = () -> {
            Tenuredale x = new Tenuredale();
            x.make(0, 4, 2);
            x.make(1, 4, 12);
            x.full(true);
            Heaps.hang(x, 0, 0, 0, 0);
            Heaps.hang(x, 1, 0, 0, 0);
            x.put(0, NONE);
            x.put(1, NONE);
            return x;
        };
        Bound.still("wouldFree(false) with OLD and LARGE ones", risenOld, x -> x.wouldFree(false), 0);
        Bound.of(27, "have neither KEY nor VALUE any more", "though the KEY rises");
        Supplier<Tenuredale> cut = () -> {
            Tenuredale x = new Tenuredale();
            x.make(0, 3, 2);
            Heaps.hang(x, 0, 0, 4, 0);
            Heaps.hang(x, 0, 1, 0, 2);
            return x;
        };
        Bound.still("wouldFree(true)", cut, x -> x.wouldFree(true), 4);
        Bound.of(27, "what would be (nothing is changed)", "nor what would be by a FULL of later on");
        Tenuredale later = cut.get();
        later.wouldFree(true);
        later.get(0, 0, 1);
        Check.due("the VALUE, as its KEY is held by now", later.isReachable(2), true);
        Check.due("wouldFree(true)", later.wouldFree(true), 0);
        later.put(1, NONE);
        later.wouldFree(false);
        later.get(0, 0, 1);
        Check.due("full(true)", later.full(true), 0);
        Check.due("VALUE", later.field(0, 1), 2);
        Bound.of(27, sentence, "as that FULL does, to a word");
        for (boolean isSoftKept : new boolean[] {true, false}) {
            Tenuredale x = Heaps.rich();
            int free = x.wouldFree(isSoftKept);
            int gone = 0;
            int[] sizes = new int[11];
            for (int n = 0; n < 11; n++) {
                sizes[n] = x.ofObject(n, 0) == 0 ? 0 : x.ofObject(n, 2);
            }
            x.full(isSoftKept);
            for (int n = 0; n < 11; n++) {
                gone += x.ofObject(n, 0) == 0 ? sizes[n] : 0;
            }
            Check.due("wouldFree", free, gone);
        }
    }

    private static void held() {
        Bound.of(28, "Throws `IndexOutOfBoundsException` if there was no such OBJECT");
        for (int object : NO_OBJECTS) {
            Bound.index("held(" + object + ")", Heaps::rich, x -> x.held(object));
        }
        Bound.index("held(0) of a new one", Tenuredale::new, x -> x.held(0));
        Bound.still("held(199)", Heaps::withAllMade, x -> x.held(199), 0);
        Bound.index("held(200)", Heaps::withAllMade, x -> x.held(200));
        Bound.of(28, "(0 of one that is GONE)");
        Bound.still("held(0)", AskedBoundsTest::withOneGone, x -> x.held(0), 0);
        Bound.still("held(0) of 200", Heaps::withAllMade, x -> x.held(0), 0);
        Bound.of(28, "if all its FIELDS were NONE", "it has none, or they are");
        Tenuredale n = new Tenuredale();
        n.make(0, 0, 0);
        n.make(1, 0, 11);
        n.make(2, 0, 1);
        n.set(2, 0, 2);
        for (int object = 0; object < 3; object++) {
            Check.due("held(" + object + ")", n.held(object), 0);
        }
        Bound.of(28, "Returns by how many words wouldFree(true) would be more", "all of a chain of 60 but itself");
        Bound.still("held(59)", () -> Heaps.withChain(60), x -> x.held(59), 177);
        Bound.still("held(0)", () -> Heaps.withChain(60), x -> x.held(0), 0);
        Bound.of(28, "Returns by how many words wouldFree(true) would be more", "it would be GONE itself");
        Tenuredale g = new Tenuredale();
        g.make(0, 0, 1);
        Heaps.hang(g, 0, 0, 0, 0);
        g.put(0, NONE);
        Check.due("held(0)", g.held(0), 0);
        Bound.of(28, "Returns by how many words wouldFree(true) would be more", "SOFT ones are kept");
        Bound.still("held(0)", AskedBoundsTest::withOneThatHoldsSoftOnes, x -> x.held(0), 5);
        Bound.still("held(1)", AskedBoundsTest::withOneThatHoldsSoftOnes, x -> x.held(1), 2);
        Bound.of(28, "(below 0: less)");
        Bound.still("held(0)", AskedBoundsTest::withOneThatHoldsLessThanNothing, x -> x.held(0), -3);
        Bound.still("wouldFree(true)", AskedBoundsTest::withOneThatHoldsLessThanNothing, x -> x.wouldFree(true), 3);
    }

    /**
     * 0 refers to the PAIR 1, whose KEY 2 is not MARKED, so that it loses its VALUE 3. But if 0 did not, the PAIR would
     * rise with its KEY by the FINAL one 4, and keep its VALUE.
     */
    private static Tenuredale withOneThatHoldsLessThanNothing() {
        Tenuredale x = new Tenuredale();
        x.make(0, 0, 1);
        x.make(1, 3, 2);
        x.make(2, 0, 0);
        x.set(1, 0, 2);
        Heaps.hang(x, 1, 1, 0, 1);
        x.set(0, 0, 1);
        x.make(3, 4, 2);
        x.set(3, 0, 1);
        x.set(3, 1, 2);
        for (int slot = 1; slot < 4; slot++) {
            x.put(slot, NONE);
        }
        return x;
    }

    /** The LARGE 0 refers to the SOFT 1, that to 2; what is held by 3, a SOFT one, too, is 4. */
    private static Tenuredale withOneThatHoldsSoftOnes() {
        Tenuredale x = new Tenuredale();
        x.make(0, 0, 12);
        Heaps.hang(x, 0, 11, 2, 1);
        x.get(0, 11, 1);
        Heaps.hang(x, 1, 0, 0, 0);
        x.make(1, 2, 1);
        Heaps.hang(x, 1, 0, 0, 4);
        return x;
    }

    private static void addressFor() {
        Bound.of(29, "Throws `IllegalArgumentException` if fields is not 0 to 20");
        for (int fields : new int[] {NONE, 21, MIN, MAX}) {
            Bound.argument("addressFor(" + fields + ")", Heaps::rich, x -> x.addressFor(fields));
            Bound.argument("addressFor(" + fields + ") of a new one", Tenuredale::new, x -> x.addressFor(fields));
        }
        Bound.of(29, "An OBJECT with 12 FIELDS or more is LARGE from the beginning on");
        int[][] due = {{0, 0}, {11, 0}, {12, 300}, {20, 300}};
        for (int[] one : due) {
            Bound.still("addressFor(" + one[0] + ")", Tenuredale::new, x -> x.addressFor(one[0]), one[1]);
        }
        Bound.of(29, "NONE, if there is no room", "the HALF");
        for (int half = 0; half <= 40; half += 40) {
            Tenuredale x = new Tenuredale();
            if (half == 40) {
                x.minor();
            }
            x.make(0, 0, 11);
            x.make(1, 0, 11);
            Check.due("addressFor(11)", x.addressFor(11), half + 26);
            x.make(2, 0, 10);
            Check.due("addressFor(0), just room", x.addressFor(0), half + 38);
            Check.due("addressFor(1), a word too few", x.addressFor(1), NONE);
            x.make(3, 0, 0);
            Check.due("addressFor(0), full", x.addressFor(0), NONE);
            Check.due("addressFor(11), full", x.addressFor(11), NONE);
            Check.due("addressFor(12)", x.addressFor(12), 300);
        }
        Bound.of(29, "NONE, if there is no room", "LARGE");
        Tenuredale l = withAllOfLarge();
        Check.due("addressFor(12)", l.addressFor(12), NONE);
        Check.due("addressFor(20)", l.addressFor(20), NONE);
        Check.due("addressFor(11)", l.addressFor(11), 0);
        l.put(1, NONE);
        l.put(3, NONE);
        Check.due("what would be GONE is in the way", l.addressFor(12), NONE);
        l.full(true);
        Check.due("addressFor(18), the first gap that just is great enough", l.addressFor(18), 360);
        Check.due("addressFor(19), a word too few", l.addressFor(19), NONE);
        Bound.of(29, "NONE, if there is no room", "200 were made, but there is room");
        Bound.still("addressFor(0)", Heaps::withAllMade, x -> x.addressFor(0), 0);
        Bound.still("addressFor(20)", Heaps::withAllMade, x -> x.addressFor(20), 300);
        Bound.of(29, "if nothing is collected for it", "what is YOUNG would be GONE");
        Bound.still("addressFor(0)", () -> {
            Tenuredale x = new Tenuredale();
            for (int n = 0; n < 20; n++) {
                x.make(0, 0, 0);
            }
            return x;
        }, x -> x.addressFor(0), NONE);
        Bound.of(29, "Returns the address at which a PLAIN OBJECT with so many would be made", "as make does");
        for (int fields = 0; fields <= 20; fields++) {
            Tenuredale x = Heaps.rich();
            int address = x.addressFor(fields);
            int made = x.make(1, 0, fields);
            if (address == NONE) {
                Check.due("something was collected for " + fields + " FIELDS", x.many(11) + x.many(12) > 1, true);
            } else {
                Check.due("where one of " + fields + " FIELDS was made", x.ofObject(made, 1), address);
                Check.due("what was collected for it", x.many(11) + x.many(12), 1);
            }
        }
    }

    private static void digest() {
        Bound.of(30, "A number d starts with 58130; for each of the following numbers v, d becomes d * 31 + v",
            "a new one");
        BigInteger d = BigInteger.valueOf(58130);
        for (int v : new int[] {0, 0, 1, 0, 0, 0, 60, 0, 1, 0, 0, 0, 0, 0, 0, 0, NONE, NONE, NONE, NONE, 0, 0, 0}) {
            d = d.multiply(BigInteger.valueOf(31)).add(BigInteger.valueOf(v));
        }
        Check.due("digest()", new Tenuredale().digest(), d.longValue());
        Bound.of(30, "which wraps around as a 64-bit integer");
        Check.due("it goes beyond 64 bits", d.bitLength() > 64, true);
        wraps("a new one", new Tenuredale());
        wraps("something of all", Heaps.rich());
        wraps("8 FRAMES", Heaps.richWithFrames(8));
        wraps("one is GONE", withOneGone());
        wraps("200 were made", Heaps.withAllMade());
        wraps("all of OLD", Heaps.withAllOfOld());
        wraps("all of LARGE", withAllOfLarge());
        wraps("all CARDS are DIRTY", withAllDirty());
        wraps("what is held is below 0", withOneThatHoldsLessThanNothing());
        wraps("what SOFT ones hold", withOneThatHoldsSoftOnes());
        for (int left = 5; left <= 7; left++) {
            Tenuredale x = new Tenuredale();
            x.make(0, 0, 11);
            x.make(1, 0, 11);
            x.make(2, 0, 12 - left);
            Check.due("addressFor(4)", x.addressFor(4), left == 5 ? NONE : 40 - left);
            wraps(left + " words are left", x);
        }
        Bound.of(30, "Computes a checksum.", "nothing is changed by it");
        Bound.still("digest()", Heaps::rich, Tenuredale::digest, Heaps.rich().digest());
        Bound.still("digest() of a new one", Tenuredale::new, Tenuredale::digest, d.longValue());
    }

    private static void wraps(String name, Tenuredale x) {
        Check.due("digest(), " + name, x.digest(), Answers.digestUnwrapped(x).longValue());
    }
}
