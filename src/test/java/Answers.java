import java.math.BigInteger;
import java.util.ArrayList;
import java.util.List;

/** All that a heap answers, as rows that can be compared. */
final class Answers {
    private static final int NONE = -1;

    private Answers() { }

    /** The digest and the answers of all calls that ask; they change nothing. */
    static List<String> told(Tenuredale x) {
        List<String> rows = new ArrayList<>();
        rows.add("digest() " + x.digest());
        for (int what = 0; what < 16; what++) {
            rows.add("many(" + what + ") " + x.many(what));
        }
        tellSlots(x, rows);
        for (int card = 0; card < 20; card++) {
            rows.add("isDirty(" + card + ") " + x.isDirty(card));
        }
        for (int place = 0; place < x.many(10); place++) {
            rows.add("queue(" + place + ") " + x.queue(place));
        }
        for (int object = 0; object < x.many(0); object++) {
            tellObject(x, object, rows);
        }
        rows.add("meanSize() " + x.meanSize());
        rows.add("wouldFree(true) " + x.wouldFree(true));
        rows.add("wouldFree(false) " + x.wouldFree(false));
        for (int fields = 0; fields <= 20; fields++) {
            rows.add("addressFor(" + fields + ") " + x.addressFor(fields));
        }
        return rows;
    }

    private static void tellSlots(Tenuredale x, List<String> rows) {
        for (int slot = 0; slot < 4; slot++) {
            rows.add("at(" + slot + ") " + x.at(slot));
        }
    }

    private static void tellObject(Tenuredale x, int object, List<String> rows) {
        for (int what = 0; what < 8; what++) {
            rows.add("ofObject(" + object + ", " + what + ") " + x.ofObject(object, what));
        }
        int fields = fieldsOf(x, object);
        rows.add("FIELDS of " + object + " " + fields);
        for (int field = 0; field < fields; field++) {
            rows.add("field(" + object + ", " + field + ") " + x.field(object, field));
        }
        rows.add("isReachable(" + object + ") " + x.isReachable(object));
        rows.add("held(" + object + ") " + x.held(object));
    }

    private static int fieldsOf(Tenuredale x, int object) {
        for (int field = 0; field < 20; field++) {
            try {
                x.field(object, field);
            } catch (IndexOutOfBoundsException e) {
                return field;
            }
        }
        return 20;
    }

    /** What no call that asks tells: TENURE, GLOBALS, the other FRAMES, the next HASH; the heap is used up by it. */
    static List<String> kept(Tenuredale x) {
        List<String> rows = new ArrayList<>();
        rows.add("tenure(2) " + x.tenure(2));
        for (int global = 0; global < 4; global++) {
            rows.add("swap(0, " + global + ") " + x.swap(0, global));
        }
        while (x.many(2) > 1) {
            hashSlots(x, rows);
            rows.add("pop() " + x.pop());
            tellSlots(x, rows);
        }
        hashSlots(x, rows);
        rows.add("minor() " + x.minor());
        rows.addAll(told(x));
        rows.add("full(false) " + x.full(false));
        rows.addAll(told(x));
        return rows;
    }

    private static void hashSlots(Tenuredale x, List<String> rows) {
        for (int slot = 0; slot < 4; slot++) {
            if (x.at(slot) != NONE) {
                rows.add("hash(" + slot + ") " + x.hash(slot));
            }
        }
    }

    /** The checksum of promise 30 as it would be if it did not wrap around. */
    static BigInteger digestUnwrapped(Tenuredale x) {
        List<Integer> row = new ArrayList<>();
        for (int what = 0; what < 16; what++) {
            row.add(x.many(what));
        }
        for (int place = 0; place < x.many(10); place++) {
            row.add(x.queue(place));
        }
        for (int slot = 0; slot < 4; slot++) {
            row.add(x.at(slot));
        }
        for (int object = 0; object < x.many(0); object++) {
            if (x.ofObject(object, 0) != 0) {
                row.add(object);
                for (int what = 0; what < 8; what++) {
                    row.add(x.ofObject(object, what));
                }
                for (int field = 0; field < fieldsOf(x, object); field++) {
                    row.add(x.field(object, field));
                }
                row.add(x.isReachable(object) ? 1 : 0);
                row.add(x.held(object));
            }
        }
        row.add(x.wouldFree(true));
        row.add(x.wouldFree(false));
        row.add(x.addressFor(4));
        BigInteger d = BigInteger.valueOf(58130);
        for (int v : row) {
            d = d.multiply(BigInteger.valueOf(31)).add(BigInteger.valueOf(v));
        }
        return d;
    }
}
