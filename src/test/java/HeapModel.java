import java.util.ArrayList;
import java.util.Arrays;
import java.util.Collections;
import java.util.Comparator;
import java.util.HashSet;
import java.util.List;
import java.util.Set;
import java.util.TreeSet;

/**
 * A second reading of the document, for the tests: all in numbers, nothing kept that can be found anew,
 * and what would be is done to a copy.
 */
final class HeapModel {
    static final int NONE = -1;

    private static final class Obj {
        int kind;
        int[] fields;
        String place = "GONE";
        int address;
        int age;
        int hash = NONE;
        boolean grown;
        boolean pinned;
        String colour = "";

        Obj copy() {
            Obj o = new Obj();
            o.kind = kind;
            o.fields = fields.clone();
            o.place = place;
            o.address = address;
            o.age = age;
            o.hash = hash;
            o.grown = grown;
            o.pinned = pinned;
            o.colour = colour;
            return o;
        }
    }

    private List<Obj> objects = new ArrayList<>();
    private List<int[]> frames = new ArrayList<>();
    private int[] globals = {NONE, NONE, NONE, NONE};
    private List<Integer> queue = new ArrayList<>();
    private Set<Integer> dirtyCards = new TreeSet<>();
    private int half = 0;
    private int youngTop = 0;
    private int oldTop = 100;
    private int oldSize = 60;
    private int tenure = 2;
    private int hashes = 0;
    private int minors = 0;
    private int fulls = 0;
    private int touched = 0;
    private int mostTouched = 0;
    private boolean marking = false;

    HeapModel() {
        frames.add(new int[] {NONE, NONE, NONE, NONE});
    }

    private HeapModel copy() {
        HeapModel m = new HeapModel();
        for (Obj o : objects) m.objects.add(o.copy());
        m.frames.clear();
        for (int[] f : frames) m.frames.add(f.clone());
        m.globals = globals.clone();
        m.queue = new ArrayList<>(queue);
        m.dirtyCards = new TreeSet<>(dirtyCards);
        m.half = half;
        m.youngTop = youngTop;
        m.oldTop = oldTop;
        m.oldSize = oldSize;
        m.tenure = tenure;
        m.hashes = hashes;
        m.minors = minors;
        m.fulls = fulls;
        m.touched = touched;
        m.mostTouched = mostTouched;
        m.marking = marking;
        return m;
    }

    // ---- small words

    private Obj obj(int n) { return objects.get(n); }
    private boolean there(int n) { return !obj(n).place.equals("GONE"); }
    private boolean young(int n) { return n != NONE && obj(n).place.equals("YOUNG"); }
    private int size(int n) { return 2 + obj(n).fields.length + (obj(n).grown ? 1 : 0); }
    private int grownSize(int n) { return 2 + obj(n).fields.length + (obj(n).hash != NONE ? 1 : 0); }
    private int card(int n) { return (obj(n).address - 100) / 16; }
    private int[] last() { return frames.get(frames.size() - 1); }

    /** How many FIELDS the OBJECT of a SLOT has: for the choice of arguments. */
    int fieldsIn(int slot) {
        return !slotOk(slot) || last()[slot] == NONE ? 0 : obj(last()[slot]).fields.length;
    }

    private List<Integer> in(String place) {
        List<Integer> found = new ArrayList<>();
        for (int n = 0; n < objects.size(); n++) if (obj(n).place.equals(place)) found.add(n);
        found.sort(Comparator.comparingInt(n -> obj(n).address));
        return found;
    }

    private List<Integer> oldAndLarge() {
        List<Integer> found = in("OLD");
        found.addAll(in("LARGE"));
        return found;
    }

    private List<Integer> thereAll() {
        List<Integer> found = new ArrayList<>();
        for (int n = 0; n < objects.size(); n++) if (there(n)) found.add(n);
        return found;
    }

    private List<Integer> rootList() {
        List<Integer> found = new ArrayList<>();
        for (int[] f : frames) for (int n : f) if (n != NONE) found.add(n);
        for (int n : globals) if (n != NONE) found.add(n);
        found.addAll(queue);
        return found;
    }

    private List<Integer> rootsAndPinned() {
        List<Integer> found = rootList();
        for (int n : thereAll()) if (obj(n).pinned) found.add(n);
        return found;
    }

    private void moves(int n, String place, int address) {
        if (obj(n).hash != NONE) obj(n).grown = true;
        obj(n).place = place;
        obj(n).address = address;
    }

    private void movesToOld(int n) {
        moves(n, "OLD", oldTop);
        oldTop += size(n);
    }

    private void touch(int words) {
        touched = words;
        mostTouched = Math.max(mostTouched, words);
    }

    private void gone(int n) {
        Obj o = obj(n);
        o.place = "GONE";
        Arrays.fill(o.fields, NONE);
    }

    private boolean hasYoungField(int n) {
        for (int f : obj(n).fields) if (young(f)) return true;
        return false;
    }

    private void newCards() {
        dirtyCards.clear();
        for (int n : oldAndLarge()) if (hasYoungField(n)) dirtyCards.add(card(n));
    }

    private int youngNeed() {
        int need = 0;
        for (int n : in("YOUNG")) need += grownSize(n);
        return need;
    }

    // ---- checks

    private static void index(boolean ok) { if (!ok) throw new IndexOutOfBoundsException("model"); }
    private static void argument(boolean ok) { if (!ok) throw new IllegalArgumentException("model"); }
    private static void state(boolean ok) { if (!ok) throw new IllegalStateException("model"); }
    private static boolean slotOk(int s) { return s >= 0 && s <= 3; }
    private boolean objectOk(int n) { return n >= 0 && n < objects.size(); }

    // ---- the program

    int push() {
        state(frames.size() < 8);
        frames.add(new int[] {NONE, NONE, NONE, NONE});
        return frames.size();
    }

    int pop() {
        state(frames.size() > 1);
        frames.remove(frames.size() - 1);
        return frames.size();
    }

    int make(int slot, int kind, int fields) {
        index(slotOk(slot));
        argument(kind >= 0 && kind <= 4 && fields >= 0 && fields <= 20);
        argument(!((kind == 1 || kind == 2) && fields < 1) && !(kind == 3 && fields < 2));
        state(objects.size() < 200);
        boolean large = fields >= 12;
        if (addressFor(fields) == NONE && !large) minor();
        if (addressFor(fields) == NONE) full(true);
        if (addressFor(fields) == NONE) full(false);
        int address = addressFor(fields);
        if (address == NONE) return NONE;
        Obj o = new Obj();
        o.kind = kind;
        o.fields = new int[fields];
        Arrays.fill(o.fields, NONE);
        o.place = large ? "LARGE" : "YOUNG";
        o.address = address;
        o.colour = marking ? "BLACK" : "";
        if (!large) youngTop = address + 2 + fields;
        objects.add(o);
        last()[slot] = objects.size() - 1;
        return objects.size() - 1;
    }

    int set(int slot, int field, int other) {
        index(slotOk(slot) && (other == NONE || slotOk(other)));
        int n = last()[slot];
        index(n == NONE || field >= 0 && field < obj(n).fields.length);
        state(n != NONE);
        int before = obj(n).fields[field];
        int value = other == NONE ? NONE : last()[other];
        obj(n).fields[field] = value;
        if (!young(n) && young(value)) dirtyCards.add(card(n));
        if (marking && value != NONE && obj(n).colour.equals("BLACK") && obj(value).colour.equals("WHITE")) {
            obj(value).colour = "GREY";
        }
        return before;
    }

    int get(int slot, int field, int to) {
        index(slotOk(slot) && slotOk(to));
        int n = last()[slot];
        index(n == NONE || field >= 0 && field < obj(n).fields.length);
        state(n != NONE);
        last()[to] = obj(n).fields[field];
        return last()[to];
    }

    int put(int slot, int other) {
        index(slotOk(slot) && (other == NONE || slotOk(other)));
        int before = last()[slot];
        last()[slot] = other == NONE ? NONE : last()[other];
        return before;
    }

    int swap(int slot, int global) {
        index(slotOk(slot) && global >= 0 && global <= 3);
        int n = globals[global];
        globals[global] = last()[slot];
        last()[slot] = n;
        return n;
    }

    int hash(int slot) {
        index(slotOk(slot));
        state(last()[slot] != NONE);
        Obj o = obj(last()[slot]);
        if (o.hash == NONE) o.hash = hashes++;
        return o.hash;
    }

    boolean pin(int slot) {
        index(slotOk(slot));
        int n = last()[slot];
        state(n != NONE);
        int others = 0;
        for (int m : thereAll()) if (m != n && obj(m).pinned) others++;
        state(others < 4);
        if (young(n)) {
            if (oldTop + grownSize(n) > 100 + oldSize) return false;
            movesToOld(n);
            if (hasYoungField(n)) dirtyCards.add(card(n));
        }
        obj(n).pinned = true;
        return true;
    }

    boolean unpin(int slot) {
        index(slotOk(slot));
        state(last()[slot] != NONE);
        boolean was = obj(last()[slot]).pinned;
        obj(last()[slot]).pinned = false;
        return was;
    }

    int take(int slot) {
        index(slotOk(slot));
        if (queue.isEmpty()) return NONE;
        last()[slot] = queue.remove(0);
        return last()[slot];
    }

    // ---- the collector

    int minor() {
        int before = thereAll().size();
        if (100 + oldSize - oldTop < youngNeed()) return full(true);
        int otherHalf = half == 0 ? 40 : 0;
        int[] otherTop = {otherHalf};
        List<Integer> ahead = oldAndLarge();
        int words = 0;
        List<Integer> moved = new ArrayList<>();
        Set<Integer> left = new HashSet<>(in("YOUNG"));
        for (int n : rootList()) minorMove(n, left, moved, otherHalf, otherTop);
        for (int n : ahead) {
            if (dirtyCards.contains(card(n))) {
                words += size(n);
                minorFields(n, left, moved, otherHalf, otherTop);
            }
        }
        for (int i = 0; i < moved.size(); i++) minorFields(moved.get(i), left, moved, otherHalf, otherTop);
        minorWeak(left);
        int from = moved.size();
        for (int n : new TreeSet<>(left)) {
            if (obj(n).kind == 4) {
                obj(n).kind = 0;
                queue.add(n);
                minorMove(n, left, moved, otherHalf, otherTop);
            }
        }
        for (int i = from; i < moved.size(); i++) minorFields(moved.get(i), left, moved, otherHalf, otherTop);
        minorWeak(left);
        for (int n : left) gone(n);
        half = otherHalf;
        youngTop = otherTop[0];
        newCards();
        for (int n : moved) words += size(n);
        touch(words);
        minors++;
        return before - thereAll().size();
    }

    private void minorMove(int n, Set<Integer> left, List<Integer> moved, int otherHalf, int[] otherTop) {
        if (!left.remove(n)) return;
        Obj o = obj(n);
        o.age++;
        if (o.age >= tenure || otherTop[0] + grownSize(n) > otherHalf + 40) {
            movesToOld(n);
        } else {
            moves(n, "YOUNG", otherTop[0]);
            otherTop[0] += size(n);
        }
        moved.add(n);
    }

    private void minorFields(int n, Set<Integer> left, List<Integer> moved, int otherHalf, int[] otherTop) {
        for (int f = 0; f < obj(n).fields.length; f++) {
            if (f == 0 && obj(n).kind == 1) continue;
            int to = obj(n).fields[f];
            if (to != NONE) minorMove(to, left, moved, otherHalf, otherTop);
        }
    }

    private void minorWeak(Set<Integer> left) {
        for (int n : thereAll()) {
            Obj o = obj(n);
            if (o.kind == 1 && !left.contains(n) && left.contains(o.fields[0])) o.fields[0] = NONE;
        }
    }

    int full(boolean soft) {
        return fullFrom(reach(rootsAndPinned(), new HashSet<>(), soft), soft);
    }

    /** What is MARKED, begun with some and what was MARKED already: looked for until nothing is added. */
    private Set<Integer> reach(List<Integer> begun, Set<Integer> already, boolean soft) {
        Set<Integer> marked = new HashSet<>(already);
        marked.addAll(begun);
        int count = -1;
        while (count != marked.size()) {
            count = marked.size();
            for (int n : new ArrayList<>(marked)) {
                Obj o = obj(n);
                for (int f = 0; f < o.fields.length; f++) {
                    boolean follow = true;
                    if (o.kind == 1 && f == 0) follow = false;
                    if (o.kind == 2 && f == 0 && !soft) follow = false;
                    if (o.kind == 3 && f == 0) follow = false;
                    if (o.kind == 3 && f == 1) follow = o.fields[0] != NONE && marked.contains(o.fields[0]);
                    if (follow && o.fields[f] != NONE) marked.add(o.fields[f]);
                }
            }
        }
        return marked;
    }

    private void dropFull(Set<Integer> marked, boolean soft) {
        for (int n : thereAll()) {
            Obj o = obj(n);
            if (o.kind == 3 && marked.contains(n) && !marked.contains(o.fields[0])) {
                o.fields[0] = NONE;
                o.fields[1] = NONE;
            }
            if ((o.kind == 1 || o.kind == 2 && !soft) && !marked.contains(o.fields[0])) o.fields[0] = NONE;
        }
    }

    private int fullFrom(Set<Integer> begun, boolean soft) {
        int before = thereAll().size();
        dropFull(begun, soft);
        List<Integer> raised = new ArrayList<>();
        for (int n : thereAll()) {
            if (obj(n).kind == 4 && !begun.contains(n)) {
                raised.add(n);
                queue.add(n);
                obj(n).kind = 0;
            }
        }
        Set<Integer> marked = reach(raised, begun, soft);
        dropFull(marked, soft);
        for (int n : thereAll()) if (!marked.contains(n)) gone(n);
        int movedWords = 0;
        int end = 100;
        for (int n : in("OLD")) {
            if (!obj(n).pinned && obj(n).address != end) {
                moves(n, "OLD", end);
                movedWords += size(n);
            }
            end = obj(n).address + size(n);
        }
        oldTop = end;
        if (oldTop + youngNeed() <= 100 + oldSize) {
            for (int n : in("YOUNG")) {
                movesToOld(n);
                movedWords += size(n);
            }
            half = 0;
            youngTop = 0;
        }
        int used = oldTop - 100;
        if (used / (double) oldSize > 0.75) {
            oldSize = Math.min(180, oldSize + 30);
        } else if (used / (double) oldSize < 0.25) {
            oldSize = Collections.max(List.of(oldSize - 30, 60, used));
        }
        newCards();
        marking = false;
        fulls++;
        for (int n : thereAll()) movedWords += size(n);
        touch(movedWords);
        return before - thereAll().size();
    }

    int start() {
        state(!marking);
        marking = true;
        for (Obj o : objects) o.colour = "WHITE";
        for (int n : rootsAndPinned()) obj(n).colour = "GREY";
        return greys().size();
    }

    private List<Integer> greys() {
        List<Integer> found = new ArrayList<>();
        if (marking) for (int n : thereAll()) if (obj(n).colour.equals("GREY")) found.add(n);
        return found;
    }

    private int oneStep() {
        int n = greys().get(0);
        obj(n).colour = "BLACK";
        for (int f = 0; f < obj(n).fields.length; f++) {
            int to = obj(n).fields[f];
            if (to == NONE || obj(n).kind == 1 && f == 0) continue;
            if (obj(to).colour.equals("WHITE")) obj(to).colour = "GREY";
        }
        return n;
    }

    int step(int steps) {
        argument(steps >= 1 && steps <= 50);
        state(marking);
        int done = 0;
        while (done < steps && !greys().isEmpty()) {
            touch(size(oneStep()));
            done++;
        }
        return done;
    }

    int finish() {
        state(marking);
        for (int n : rootsAndPinned()) if (obj(n).colour.equals("WHITE")) obj(n).colour = "GREY";
        while (!greys().isEmpty()) oneStep();
        Set<Integer> black = new HashSet<>();
        for (int n : thereAll()) if (obj(n).colour.equals("BLACK")) black.add(n);
        return fullFrom(black, true);
    }

    int tenure(int t) {
        argument(t >= 1 && t <= 9);
        int before = tenure;
        tenure = t;
        return before;
    }

    // ---- what is asked

    int at(int slot) {
        index(slotOk(slot));
        return last()[slot];
    }

    int field(int object, int field) {
        index(objectOk(object) && field >= 0 && field < obj(object).fields.length);
        return obj(object).fields[field];
    }

    int ofObject(int object, int what) {
        index(objectOk(object));
        argument(what >= 0 && what <= 7);
        Obj o = obj(object);
        if (!there(object)) return what == 0 ? 0 : NONE;
        return switch (what) {
            case 0 -> List.of("GONE", "YOUNG", "OLD", "LARGE").indexOf(o.place);
            case 1 -> o.address;
            case 2 -> size(object);
            case 3 -> o.age;
            case 4 -> o.hash;
            case 5 -> o.pinned ? 1 : 0;
            case 6 -> marking ? List.of("WHITE", "GREY", "BLACK").indexOf(o.colour) : NONE;
            default -> o.kind;
        };
    }

    int many(int what) {
        argument(what >= 0 && what <= 15);
        return switch (what) {
            case 0 -> objects.size();
            case 1 -> thereAll().size();
            case 2 -> frames.size();
            case 3 -> youngTop - half;
            case 4 -> half;
            case 5 -> oldTop - 100;
            case 6 -> oldSize;
            case 7 -> 120 - largeFree().size();
            case 8 -> gaps();
            case 9 -> dirtyCards.size();
            case 10 -> queue.size();
            case 11 -> minors;
            case 12 -> fulls;
            case 13 -> touched;
            case 14 -> mostTouched;
            default -> greys().size();
        };
    }

    private Set<Integer> largeFree() {
        Set<Integer> free = new TreeSet<>();
        for (int a = 300; a < 420; a++) free.add(a);
        for (int n : in("LARGE")) for (int i = 0; i < size(n); i++) free.remove(obj(n).address + i);
        return free;
    }

    private int gaps() {
        int gaps = 0;
        Set<Integer> free = largeFree();
        for (int a : free) if (!free.contains(a - 1)) gaps++;
        return gaps;
    }

    boolean isDirty(int card) {
        index(card >= 0 && card <= 19);
        return dirtyCards.contains(card);
    }

    int queue(int place) {
        index(place >= 0 && place < queue.size());
        return queue.get(place);
    }

    double meanSize() {
        if (thereAll().isEmpty()) return 0;
        double words = 0;
        for (int n : thereAll()) words += size(n);
        return words / thereAll().size();
    }

    // ---- what would be

    boolean isReachable(int object) {
        index(objectOk(object));
        return reach(rootsAndPinned(), new HashSet<>(), true).contains(object);
    }

    int wouldFree(boolean soft) {
        HeapModel m = copy();
        m.full(soft);
        int words = 0;
        for (int n : thereAll()) if (!m.there(n)) words += size(n);
        return words;
    }

    int held(int object) {
        index(objectOk(object));
        HeapModel m = copy();
        Arrays.fill(m.obj(object).fields, NONE);
        return m.wouldFree(true) - wouldFree(true);
    }

    int addressFor(int fields) {
        argument(fields >= 0 && fields <= 20);
        int size = 2 + fields;
        if (fields < 12) return youngTop + size <= half + 40 ? youngTop : NONE;
        Set<Integer> free = largeFree();
        for (int a = 300; a + size <= 420; a++) {
            boolean fits = true;
            for (int i = 0; i < size; i++) if (!free.contains(a + i)) fits = false;
            if (fits) return a;
        }
        return NONE;
    }

    long digest() {
        long d = 58130;
        for (int what = 0; what <= 15; what++) d = d * 31 + many(what);
        for (int n : queue) d = d * 31 + n;
        for (int slot = 0; slot <= 3; slot++) d = d * 31 + at(slot);
        for (int n : thereAll()) {
            d = d * 31 + n;
            for (int what = 0; what <= 7; what++) d = d * 31 + ofObject(n, what);
            for (int f : obj(n).fields) d = d * 31 + f;
            d = d * 31 + (isReachable(n) ? 1 : 0);
            d = d * 31 + held(n);
        }
        d = d * 31 + wouldFree(true);
        d = d * 31 + wouldFree(false);
        return d * 31 + addressFor(4);
    }
}
