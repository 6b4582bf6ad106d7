/** Promises 19 to 30: what is asked, and what would be. */
public final class AskedTest {
    private static final int NONE = -1;
    private static final int[] BEYOND = {NONE, Integer.MIN_VALUE, Integer.MAX_VALUE};

    private AskedTest() { }

    public static void main(String[] args) {
        at();
        field();
        ofObject();
        many();
        manyTouched();
        manyGaps();
        isDirty();
        queue();
        meanSize();
        isReachable();
        wouldFree();
        held();
        heldBelowNothing();
        addressFor();
        digest();
        Check.end();
    }

    private static void at() {
        Check.part("Promise 19");
        Tenuredale x = new Tenuredale();
        x.make(0, 0, 0);
        x.make(3, 0, 0);
        Check.due("at(0)", x.at(0), 0);
        Check.due("at(1)", x.at(1), NONE);
        Check.due("at(3)", x.at(3), 1);
        x.push();
        Check.due("at(0) of another FRAME", x.at(0), NONE);
        Check.throwsIndex("at(4)", () -> x.at(4));
        for (int wrong : BEYOND) {
            Check.throwsIndex("at(" + wrong + ")", () -> x.at(wrong));
        }
    }

    private static void field() {
        Check.part("Promise 20");
        Tenuredale x = new Tenuredale();
        Check.throwsIndex("field(0, 0)", () -> x.field(0, 0));
        x.make(0, 0, 2);
        x.make(1, 0, 0);
        x.set(0, 1, 0);
        Check.due("field(0, 0)", x.field(0, 0), NONE);
        Check.due("field(0, 1)", x.field(0, 1), 0);
        x.set(0, 0, 1);
        Check.throwsIndex("field(0, 2)", () -> x.field(0, 2));
        Check.throwsIndex("field(1, 0)", () -> x.field(1, 0));
        Check.throwsIndex("field(2, 0)", () -> x.field(2, 0));
        for (int wrong : BEYOND) {
            Check.throwsIndex("field(" + wrong + ", 0)", () -> x.field(wrong, 0));
            Check.throwsIndex("field(0, " + wrong + ")", () -> x.field(0, wrong));
        }
        x.put(0, NONE);
        x.minor();
        Check.due("a FIELD of one that is GONE", x.field(0, 0), NONE);
        Check.due("a FIELD of one that is GONE", x.field(0, 1), NONE);
        Check.throwsIndex("field(0, 2) of one that is GONE", () -> x.field(0, 2));
    }

    private static void ofObject() {
        Check.part("Promise 21");
        Tenuredale x = new Tenuredale();
        Check.throwsIndex("ofObject(0, 0)", () -> x.ofObject(0, 0));
        x.make(0, 3, 2);
        x.make(1, 2, 12);
        x.make(2, 4, 1);
        x.hash(0);
        x.hash(2);
        x.pin(2);
        x.start();
        x.step(1);
        x.minor();
        x.make(3, 1, 5);
        int[][] due = {
            {1, 40, 5, 1, 0, 0, 2, 3},
            {3, 300, 14, 0, NONE, 0, 1, 2},
            {2, 100, 4, 0, 1, 1, 1, 4},
            {1, 45, 7, 0, NONE, 0, 2, 1}};
        for (int n = 0; n < due.length; n++) {
            for (int what = 0; what < 8; what++) {
                Check.due("ofObject(" + n + ", " + what + ")", x.ofObject(n, what), due[n][what]);
            }
        }
        x.put(0, NONE);
        x.minor();
        Check.due("GONE", x.ofObject(0, 0), 0);
        for (int what = 1; what < 8; what++) {
            Check.due("of one that is GONE " + what, x.ofObject(0, what), NONE);
        }
        Check.throwsArgument("ofObject(0, 8)", () -> x.ofObject(0, 8));
        Check.throwsIndex("ofObject(4, 0)", () -> x.ofObject(4, 0));
        for (int wrong : BEYOND) {
            Check.throwsArgument("ofObject(1, " + wrong + ")", () -> x.ofObject(1, wrong));
            Check.throwsArgument("ofObject(0, " + wrong + ") of one that is GONE", () -> x.ofObject(0, wrong));
            Check.throwsIndex("ofObject(" + wrong + ", 0)", () -> x.ofObject(wrong, 0));
            Check.throwsIndex("ofObject(" + wrong + ", 8)", () -> x.ofObject(wrong, 8));
        }
    }

    private static void manyAll(Tenuredale x, int... due) {
        for (int what = 0; what < due.length; what++) {
            Check.due("many(" + what + ")", x.many(what), due[what]);
        }
    }

    private static void many() {
        Check.part("Promise 22");
        Tenuredale x = new Tenuredale();
        x.make(0, 0, 3);
        x.make(1, 4, 13);
        x.make(2, 4, 0);
        x.set(1, 0, 0);
        x.put(2, NONE);
        x.push();
        x.minor();
        x.make(0, 0, 1);
        x.pin(0);
        x.make(0, 0, 0);
        x.put(0, NONE);
        x.start();
        manyAll(x, 5, 5, 2, 12, 40, 3, 60, 15, 1, 1, 1, 1, 0, 22, 22, 4);
        x.minor();
        manyAll(x, 5, 4, 2, 0, 0, 10, 60, 15, 1, 0, 1, 2, 0, 22, 22, 4);
        x.finish();
        manyAll(x, 5, 4, 2, 0, 0, 10, 60, 15, 1, 0, 1, 2, 1, 25, 25, 0);
        Check.throwsArgument("many(16)", () -> x.many(16));
        for (int wrong : BEYOND) {
            Check.throwsArgument("many(" + wrong + ")", () -> x.many(wrong));
        }
    }

    private static void manyTouched() {
        Check.part("Promise 22, TOUCHED");
        Tenuredale x = new Tenuredale();
        x.make(0, 0, 1);
        x.make(1, 0, 2);
        x.hash(1);
        x.full(true);
        Check.due("by a FULL", x.many(13), 16);
        x.full(true);
        Check.due("by a FULL in which none moved", x.many(13), 8);
        Check.due("the most", x.many(14), 16);
        x.make(2, 0, 4);
        x.start();
        Check.due("by none", x.many(13), 8);
        x.step(3);
        Check.due("by a step", x.many(13), 6);
        x.set(0, 0, 2);
        x.set(0, 0, NONE);
        x.minor();
        Check.due("by a MINOR, with a DIRTY CARD of two", x.many(13), 14);
        x.finish();
        Check.due("by a FINISH", x.many(13), 20);
        Check.due("the most", x.many(14), 20);
    }

    private static void manyGaps() {
        Check.part("Promise 22, gaps");
        Tenuredale x = new Tenuredale();
        for (int slot = 0; slot < 4; slot++) {
            x.make(slot, 0, 18);
        }
        x.push();
        x.make(0, 0, 18);
        Check.due("many(7)", x.many(7), 100);
        Check.due("many(8)", x.many(8), 1);
        x.make(1, 0, 18);
        Check.due("many(7)", x.many(7), 120);
        Check.due("many(8)", x.many(8), 0);
        x.pop();
        x.put(0, NONE);
        x.put(2, NONE);
        x.full(true);
        Check.due("many(7)", x.many(7), 40);
        Check.due("many(8)", x.many(8), 3);
        x.make(0, 0, 18);
        Check.due("many(8)", x.many(8), 2);
        Check.due("addressFor(13)", x.addressFor(13), 340);
        Check.due("addressFor(19)", x.addressFor(19), 380);
    }

    private static void isDirty() {
        Check.part("Promise 23");
        Tenuredale x = new Tenuredale();
        for (int slot = 0; slot < 3; slot++) {
            x.make(slot, 0, 20);
        }
        x.push();
        x.make(0, 0, 20);
        x.make(1, 0, 20);
        x.make(3, 0, 0);
        x.set(1, 19, 3);
        Check.due("isDirty(18), of that at 388", x.isDirty(18), true);
        Check.due("isDirty(17)", x.isDirty(17), false);
        Check.due("isDirty(19)", x.isDirty(19), false);
        Check.throwsIndex("isDirty(20)", () -> x.isDirty(20));
        for (int wrong : BEYOND) {
            Check.throwsIndex("isDirty(" + wrong + ")", () -> x.isDirty(wrong));
        }
        Tenuredale y = new Tenuredale();
        for (int n = 0; n < 8; n++) {
            y.make(n % 4, 0, n == 6 ? 18 : 12);
            if (n == 3) {
                y.push();
            }
        }
        Check.due("the last LARGE one's address", y.ofObject(7, 1), 404);
        y.make(0, 0, 0);
        Check.due("isDirty(19)", y.isDirty(19), false);
        y.set(3, 0, 0);
        Check.due("isDirty(19)", y.isDirty(19), true);
    }

    private static void queue() {
        Check.part("Promise 24");
        Tenuredale x = new Tenuredale();
        Check.throwsIndex("queue(0)", () -> x.queue(0));
        x.make(0, 4, 0);
        x.make(0, 4, 0);
        x.put(0, NONE);
        x.full(true);
        Check.due("queue(0)", x.queue(0), 0);
        Check.due("queue(1)", x.queue(1), 1);
        Check.throwsIndex("queue(2)", () -> x.queue(2));
        for (int wrong : BEYOND) {
            Check.throwsIndex("queue(" + wrong + ")", () -> x.queue(wrong));
        }
        x.take(0);
        Check.due("queue(0)", x.queue(0), 1);
        Check.throwsIndex("queue(1)", () -> x.queue(1));
    }

    private static void meanSize() {
        Check.part("Promise 25");
        Tenuredale x = new Tenuredale();
        Check.due("without any", x.meanSize(), 0.0);
        x.make(0, 0, 0);
        x.make(1, 0, 1);
        Check.due("not cut", x.meanSize(), 2.5);
        x.make(2, 0, 15);
        Check.due("with a LARGE one", x.meanSize(), 22.0 / 3);
        x.hash(1);
        x.full(true);
        Check.due("GROWN", x.meanSize(), 23.0 / 3);
        x.put(0, NONE);
        x.put(1, NONE);
        x.put(2, NONE);
        x.full(true);
        Check.due("without any", x.meanSize(), 0.0);
    }

    private static void isReachable() {
        Check.part("Promise 26");
        Tenuredale x = new Tenuredale();
        Check.throwsIndex("isReachable(0)", () -> x.isReachable(0));
        x.make(0, 2, 1);
        Heaps.hang(x, 0, 0, 0, 0);
        x.make(1, 1, 1);
        Heaps.hang(x, 1, 0, 0, 0);
        x.make(2, 3, 2);
        Heaps.hang(x, 2, 0, 0, 0);
        Heaps.hang(x, 2, 1, 0, 0);
        x.make(3, 4, 0);
        x.swap(3, 0);
        x.make(3, 4, 0);
        x.pin(3);
        x.put(3, NONE);
        x.make(3, 4, 0);
        x.put(3, NONE);
        x.push();
        boolean[] due = {true, true, true, false, true, false, false, true, true, false};
        long before = x.digest();
        for (int n = 0; n < due.length; n++) {
            Check.due("isReachable(" + n + ")", x.isReachable(n), due[n]);
        }
        Check.due("digest()", x.digest(), before);
        Check.throwsIndex("isReachable(10)", () -> x.isReachable(10));
        for (int wrong : BEYOND) {
            Check.throwsIndex("isReachable(" + wrong + ")", () -> x.isReachable(wrong));
        }
        x.minor();
        Check.due("one in the QUEUE", x.isReachable(9), true);
        Check.due("one that is GONE", x.isReachable(3), false);
        x.pop();
        x.get(2, 0, 3);
        Check.due("a KEY held", x.isReachable(5), true);
        Check.due("and its VALUE", x.isReachable(6), true);
    }

    private static void wouldFree() {
        Check.part("Promise 27");
        Tenuredale x = new Tenuredale();
        Check.due("wouldFree(true)", x.wouldFree(true), 0);
        x.make(0, 2, 1);
        Heaps.hang(x, 0, 0, 0, 4);
        x.make(1, 0, 0);
        x.hash(1);
        x.minor();
        x.put(1, NONE);
        x.make(1, 0, 12);
        x.put(1, NONE);
        long before = x.digest();
        Check.due("wouldFree(true), one GROWN", x.wouldFree(true), 17);
        Check.due("wouldFree(false)", x.wouldFree(false), 23);
        Check.due("digest()", x.digest(), before);
        x.make(2, 4, 1);
        Heaps.hang(x, 2, 0, 0, 7);
        x.put(2, NONE);
        Check.due("what would rise", x.wouldFree(false), 23);
        Check.due("KIND", x.ofObject(4, 7), 4);
        x.make(2, 0, 1);
        x.hash(2);
        x.put(2, NONE);
        Check.due("SIZES as they are", x.wouldFree(false), 26);
        Check.due("full(false)", x.full(false), 4);
        Check.due("wouldFree(false)", x.wouldFree(false), 0);

        Tenuredale y = new Tenuredale();
        y.make(0, 4, 1);
        Heaps.hang(y, 0, 0, 2, 2);
        y.get(0, 0, 1);
        Heaps.hang(y, 1, 0, 0, 3);
        Heaps.hang(y, 1, 1, 0, 1);
        y.put(0, NONE);
        y.put(1, NONE);
        Check.due("the first one would rise", y.wouldFree(true), 0);
        Check.due("without what a SOFT one refers to", y.wouldFree(false), 5);
        y.make(0, 3, 2);
        Heaps.hang(y, 0, 1, 0, 1);
        Heaps.hang(y, 0, 0, 4, 0);
        Check.due("a PAIR that would have none, as its KEY rises", y.wouldFree(true), 3);
        Check.due("full(true)", y.full(true), 1);
        Check.due("VALUE", y.ofObject(5, 0), 0);
    }

    private static void held() {
        Check.part("Promise 28");
        Tenuredale x = new Tenuredale();
        Check.throwsIndex("held(0)", () -> x.held(0));
        x.make(0, 0, 2);
        Heaps.hang(x, 0, 0, 0, 3);
        Heaps.hang(x, 0, 1, 0, 1);
        x.get(0, 1, 1);
        x.make(2, 1, 1);
        x.set(2, 0, 0);
        x.make(3, 0, 1);
        x.set(3, 0, 0);
        x.get(0, 0, 0);
        x.put(1, 0);
        x.get(3, 0, 0);
        x.put(1, NONE);
        Check.due("held(0), all that only it holds", x.held(0), 8);
        Check.due("held(3), a WEAK one", x.held(3), 0);
        Check.due("held(4)", x.held(4), 0);
        x.put(0, NONE);
        Check.due("held(4), the whole chain", x.held(4), 12);
        Check.due("held(0)", x.held(0), 8);
        x.put(3, NONE);
        Check.due("held(0) of one that would be GONE", x.held(0), 0);
        Check.due("wouldFree(true)", x.wouldFree(true), 15);
        x.full(true);
        Check.due("held(0) of one that is GONE", x.held(0), 0);
        Check.throwsIndex("held(5)", () -> x.held(5));
        for (int wrong : BEYOND) {
            Check.throwsIndex("held(" + wrong + ")", () -> x.held(wrong));
        }
        x.make(0, 2, 1);
        Heaps.hang(x, 0, 0, 0, 6);
        Check.due("held(5), a SOFT one", x.held(5), 8);
        x.make(1, 4, 1);
        Heaps.hang(x, 1, 0, 0, 1);
        x.put(1, NONE);
        Check.due("held(7), one that would rise", x.held(7), 3);
        x.make(1, 3, 2);
        Heaps.hang(x, 1, 1, 0, 9);
        x.set(1, 0, 1);
        Check.due("held(9), a PAIR that is its KEY", x.held(9), 11);
    }

    private static void heldBelowNothing() {
        Check.part("Promise 28, below 0");
        Tenuredale x = new Tenuredale();
        x.make(0, 0, 1);
        x.make(1, 3, 2);
        x.make(2, 0, 0);
        x.set(1, 0, 2);
        Heaps.hang(x, 1, 1, 0, 1);
        x.set(0, 0, 1);
        x.make(3, 4, 2);
        x.set(3, 0, 1);
        x.set(3, 1, 2);
        x.put(1, NONE);
        x.put(2, NONE);
        x.put(3, NONE);
        Check.due("a PAIR that would have none any more", x.wouldFree(true), 3);
        Check.due("held(0): the PAIR would rise with its KEY", x.held(0), -3);
        Check.due("held(4): the KEY would not rise", x.held(4), 2);
        Check.due("full(true)", x.full(true), 1);
        Check.due("the VALUE", x.ofObject(3, 0), 0);
    }

    private static void addressFor() {
        Check.part("Promise 29");
        Tenuredale x = new Tenuredale();
        Check.due("addressFor(0)", x.addressFor(0), 0);
        Check.due("addressFor(11)", x.addressFor(11), 0);
        Check.due("addressFor(12)", x.addressFor(12), 300);
        x.make(0, 0, 11);
        x.make(1, 0, 11);
        x.make(2, 0, 13);
        Check.due("addressFor(11)", x.addressFor(11), 26);
        x.make(3, 0, 0);
        Check.due("addressFor(10), that just fits", x.addressFor(10), 28);
        Check.due("addressFor(11), without room", x.addressFor(11), NONE);
        Check.due("addressFor(20)", x.addressFor(20), 315);
        Check.due("many(11)", x.many(11), 0);
        x.minor();
        Check.due("addressFor(4)", x.addressFor(4), 68);
        Check.throwsArgument("addressFor(21)", () -> x.addressFor(21));
        for (int wrong : BEYOND) {
            Check.throwsArgument("addressFor(" + wrong + ")", () -> x.addressFor(wrong));
        }
        x.put(2, NONE);
        Check.due("addressFor(13), if nothing is collected for it", x.addressFor(13), 315);
    }

    private static long digestByCalls(Tenuredale x) {
        long d = 58130;
        for (int what = 0; what <= 15; what++) {
            d = d * 31 + x.many(what);
        }
        for (int place = 0; place < x.many(10); place++) {
            d = d * 31 + x.queue(place);
        }
        for (int slot = 0; slot <= 3; slot++) {
            d = d * 31 + x.at(slot);
        }
        for (int n = 0; n < x.many(0); n++) {
            if (x.ofObject(n, 0) == 0) {
                continue;
            }
            d = d * 31 + n;
            for (int what = 0; what <= 7; what++) {
                d = d * 31 + x.ofObject(n, what);
            }
            int large = x.ofObject(n, 0) == 3 || x.ofObject(n, 4) == NONE || x.ofObject(n, 3) == 0 ? 0 : 1;
            for (int field = 0; field < x.ofObject(n, 2) - 2 - large; field++) {
                d = d * 31 + x.field(n, field);
            }
            d = d * 31 + (x.isReachable(n) ? 1 : 0);
            d = d * 31 + x.held(n);
        }
        d = d * 31 + x.wouldFree(true);
        d = d * 31 + x.wouldFree(false);
        return d * 31 + x.addressFor(4);
    }

    private static void digest() {
        Check.part("Promise 30");
        Tenuredale x = new Tenuredale();
        Check.due("digest()", x.digest(), digestByCalls(x));
        x.make(0, 2, 2);
        Heaps.hang(x, 0, 0, 0, 3);
        x.make(1, 4, 1);
        Heaps.hang(x, 1, 0, 1, 1);
        x.make(2, 0, 15);
        x.hash(0);
        x.set(2, 3, 0);
        Check.due("digest()", x.digest(), digestByCalls(x));
        x.put(1, NONE);
        x.put(0, 2);
        x.start();
        Check.due("digest()", x.digest(), digestByCalls(x));
        x.minor();
        x.make(1, 3, 2);
        x.set(1, 0, 1);
        x.step(2);
        Check.due("digest()", x.digest(), digestByCalls(x));
        Check.due("digest() changes nothing", x.digest(), x.digest());
        Check.due("many(13)", x.many(13), 5);
        x.make(3, 0, 4);
        x.put(3, NONE);
        Check.due("wouldFree(true)", x.wouldFree(true) > 0, true);
        Check.due("digest()", x.digest(), digestByCalls(x));
        x.minor();
        for (int fields = 0; x.addressFor(5) != NONE; fields++) {
            x.make(3, 0, fields % 2);
        }
        Check.due("addressFor(4)", x.addressFor(4), x.many(4) + 34);
        Check.due("digest()", x.digest(), digestByCalls(x));
        Check.due("of another heap", x.digest() == new Tenuredale().digest(), false);
    }
}
