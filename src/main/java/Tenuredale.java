/** A heap with a collector that moves; words in capitals are the terms of the document. */
public final class Tenuredale {
    private static final int NONE = -1;

    private static final int MOST_FRAMES = 8;
    private static final int SLOTS = 4;
    private static final int GLOBALS = 4;

    private static final int MOST_OBJECTS = 200;
    private static final int MOST_FIELDS = 20;
    private static final int LARGE_FIELDS = 12;
    private static final int MOST_PINNED = 4;
    private static final int HEAD_WORDS = 2;

    private static final int PLAIN = 0;
    private static final int WEAK = 1;
    private static final int SOFT = 2;
    private static final int PAIR = 3;
    private static final int FINAL = 4;

    private static final int REFERENT = 0;
    private static final int KEY = 0;
    private static final int VALUE = 1;

    private static final int GONE = 0;
    private static final int YOUNG = 1;
    private static final int OLD = 2;
    private static final int LARGE = 3;

    private static final int WHITE = 0;
    private static final int GREY = 1;
    private static final int BLACK = 2;

    private static final int HALF_WORDS = 40;
    private static final int OLD_BEGIN = 100;
    private static final int OLD_LEAST = 60;
    private static final int OLD_MOST = 180;
    private static final int OLD_CHANGE = 30;
    private static final int LARGE_BEGIN = 300;
    private static final int LARGE_END = 420;
    private static final int CARDS = 20;
    private static final int CARD_WORDS = 16;

    private static final int FIRST_TENURE = 2;
    private static final int MOST_TENURE = 9;
    private static final int MOST_STEPS = 50;

    private static final int COUNTS = 16;
    private static final int TRAITS = 8;
    private static final long DIGEST_BEGIN = 58130L;
    private static final int DIGEST_FIELDS = 4;

    private final Row all;
    private final Roots roots;
    private final Places places;
    private final Tally tally;
    private final Marking marking;
    private final Trace trace;
    private final MinorCollector minorCollector;
    private final FullCollector fullCollector;
    private int hashesGiven;

    public Tenuredale() {
        all = new Row();
        roots = new Roots();
        places = new Places();
        tally = new Tally();
        marking = new Marking(all, roots);
        trace = new Trace(all, roots);
        minorCollector = new MinorCollector(all, roots, places, tally);
        fullCollector = new FullCollector(all, roots, places, tally, marking, trace);
    }

    // ---- the program

    public int push() throws IllegalStateException {
        if (roots.frames() >= MOST_FRAMES) {
            throw new IllegalStateException("there are 8 FRAMES");
        }
        roots.addFrame();
        return roots.frames();
    }

    public int pop() throws IllegalStateException {
        if (roots.frames() <= 1) {
            throw new IllegalStateException("it is the only FRAME");
        }
        roots.dropFrame();
        return roots.frames();
    }

    public int make(int slot, int kind, int fields)
            throws IndexOutOfBoundsException, IllegalArgumentException, IllegalStateException {
        requireSlot(slot);
        if (kind < PLAIN || kind > FINAL || fields < leastFields(kind) || fields > MOST_FIELDS) {
            throw new IllegalArgumentException("no such KIND, or not with so many FIELDS");
        }
        if (all.size() >= MOST_OBJECTS) {
            throw new IllegalStateException("200 OBJECTS were made");
        }
        int address = places.gapFor(fields);
        if (address == NONE && fields < LARGE_FIELDS) {
            minor();
            address = places.gapFor(fields);
        }
        if (address == NONE) {
            full(true);
            address = places.gapFor(fields);
        }
        if (address == NONE) {
            full(false);
            address = places.gapFor(fields);
        }
        if (address == NONE) {
            return NONE;
        }
        Thing thing = new Thing(all.size(), kind, fields);
        all.add(thing);
        places.lay(thing, address);
        marking.noteMade(thing);
        roots.writeSlot(slot, thing);
        return thing.number;
    }

    public int set(int slot, int field, int other) throws IndexOutOfBoundsException, IllegalStateException {
        requireSlot(slot);
        requireSlotOrNone(other);
        Thing thing = occupant(slot);
        requireField(thing, field);
        Thing before = thing.read(field);
        Thing written = roots.readSlot(other);
        thing.write(field, written);
        places.noteWritten(thing, written);
        marking.noteWritten(thing, written);
        return numberOf(before);
    }

    public int get(int slot, int field, int to) throws IndexOutOfBoundsException, IllegalStateException {
        requireSlot(slot);
        requireSlot(to);
        Thing thing = occupant(slot);
        requireField(thing, field);
        Thing found = thing.read(field);
        roots.writeSlot(to, found);
        return numberOf(found);
    }

    public int put(int slot, int other) throws IndexOutOfBoundsException {
        requireSlot(slot);
        requireSlotOrNone(other);
        Thing before = roots.readSlot(slot);
        roots.writeSlot(slot, roots.readSlot(other));
        return numberOf(before);
    }

    public int swap(int slot, int global) throws IndexOutOfBoundsException {
        requireSlot(slot);
        if (global < 0 || global >= GLOBALS) {
            throw new IndexOutOfBoundsException("no such GLOBAL");
        }
        Thing fromGlobal = roots.readGlobal(global);
        roots.writeGlobal(global, roots.readSlot(slot));
        roots.writeSlot(slot, fromGlobal);
        return numberOf(fromGlobal);
    }

    public int hash(int slot) throws IndexOutOfBoundsException, IllegalStateException {
        requireSlot(slot);
        Thing thing = occupant(slot);
        if (thing.hash == NONE) {
            thing.giveHash(hashesGiven);
            hashesGiven++;
        }
        return thing.hash;
    }

    public boolean pin(int slot) throws IndexOutOfBoundsException, IllegalStateException {
        requireSlot(slot);
        Thing thing = occupant(slot);
        if (!thing.isPinned && all.pinned() >= MOST_PINNED) {
            throw new IllegalStateException("4 others are PINNED");
        }
        if (thing.place == YOUNG) {
            if (places.oldRoom() < thing.sizeBehindMove) {
                return false;
            }
            places.moveOutOfYoung(thing);
        }
        thing.isPinned = true;
        return true;
    }

    public boolean unpin(int slot) throws IndexOutOfBoundsException, IllegalStateException {
        requireSlot(slot);
        Thing thing = occupant(slot);
        boolean wasPinned = thing.isPinned;
        thing.isPinned = false;
        return wasPinned;
    }

    public int take(int slot) throws IndexOutOfBoundsException {
        requireSlot(slot);
        Thing first = roots.queue.removeFirst();
        if (first == null) {
            return NONE;
        }
        roots.writeSlot(slot, first);
        return first.number;
    }

    // ---- the collector

    public int minor() {
        return places.canOldTakeYoung() ? minorCollector.run() : fullCollector.run(true, false);
    }

    public int full(boolean isSoftKept) {
        return fullCollector.run(isSoftKept, false);
    }

    public int start() throws IllegalStateException {
        if (marking.isOn()) {
            throw new IllegalStateException("MARKING goes on already");
        }
        marking.begin();
        return marking.greys();
    }

    public int step(int steps) throws IllegalArgumentException, IllegalStateException {
        if (steps < 1 || steps > MOST_STEPS) {
            throw new IllegalArgumentException("steps is not 1 to 50");
        }
        requireMarking();
        int done = 0;
        for (; done < steps; done++) {
            Thing blackened = marking.blackenNext();
            if (blackened == null) {
                return done;
            }
            tally.noteTouched(blackened.size);
        }
        return done;
    }

    public int finish() throws IllegalStateException {
        requireMarking();
        marking.blackenAll();
        return fullCollector.run(true, true);
    }

    public int tenure(int tenure) throws IllegalArgumentException {
        if (tenure < 1 || tenure > MOST_TENURE) {
            throw new IllegalArgumentException("tenure is not 1 to 9");
        }
        int before = minorCollector.tenureAge;
        minorCollector.tenureAge = tenure;
        return before;
    }

    // ---- what is asked

    public int at(int slot) throws IndexOutOfBoundsException {
        requireSlot(slot);
        return numberOf(roots.readSlot(slot));
    }

    public int field(int object, int field) throws IndexOutOfBoundsException {
        Thing thing = madeAs(object);
        requireField(thing, field);
        return numberOf(thing.read(field));
    }

    public int ofObject(int object, int what) throws IndexOutOfBoundsException, IllegalArgumentException {
        Thing thing = madeAs(object);
        if (what < 0 || what >= TRAITS) {
            throw new IllegalArgumentException("what is not 0 to 7");
        }
        if (what == 0) {
            return thing.place;
        }
        if (thing.place == GONE) {
            return NONE;
        }
        switch (what) {
            case 1:
                return thing.address;
            case 2:
                return thing.size;
            case 3:
                return thing.age;
            case 4:
                return thing.hash;
            case 5:
                return thing.isPinned ? 1 : 0;
            case 6:
                return marking.isOn() ? thing.colour : NONE;
            default:
                return thing.kind;
        }
    }

    public int many(int what) throws IllegalArgumentException {
        switch (what) {
            case 0:
                return all.size();
            case 1:
                return places.things();
            case 2:
                return roots.frames();
            case 3:
                return places.youngTop - places.half;
            case 4:
                return places.half;
            case 5:
                return places.oldTop - OLD_BEGIN;
            case 6:
                return places.oldWords;
            case 7:
                return places.large.words();
            case 8:
                return places.largeGaps();
            case 9:
                return places.dirtyCards();
            case 10:
                return roots.queue.size();
            case 11:
                return tally.minors;
            case 12:
                return tally.fulls;
            case 13:
                return tally.latestTouched;
            case 14:
                return tally.mostTouched;
            case 15:
                return marking.greys();
            default:
                throw new IllegalArgumentException("what is not 0 to 15");
        }
    }

    public boolean isDirty(int card) throws IndexOutOfBoundsException {
        if (card < 0 || card >= CARDS) {
            throw new IndexOutOfBoundsException("no such CARD");
        }
        return places.isCardDirty(card);
    }

    public int queue(int place) throws IndexOutOfBoundsException {
        Thing thing = roots.queue.item(place);
        if (thing == null) {
            throw new IndexOutOfBoundsException("no such place in the QUEUE");
        }
        return thing.number;
    }

    public double meanSize() {
        int things = places.things();
        return things == 0 ? 0.0 : (double) places.words() / things;
    }

    // ---- what would be

    public boolean isReachable(int object) throws IndexOutOfBoundsException {
        Thing thing = madeAs(object);
        trace.begin(true, null);
        trace.markRoots();
        trace.spread();
        return thing.isMarked;
    }

    public int wouldFree(boolean isSoftKept) {
        return trace.wordsFreed(isSoftKept, null);
    }

    public int held(int object) throws IndexOutOfBoundsException {
        Thing thing = madeAs(object);
        return thing.place == GONE ? 0 : trace.wordsFreed(true, thing) - wouldFree(true);
    }

    public int addressFor(int fields) throws IllegalArgumentException {
        if (fields < 0 || fields > MOST_FIELDS) {
            throw new IllegalArgumentException("fields is not 0 to 20");
        }
        return places.gapFor(fields);
    }

    public long digest() {
        long d = DIGEST_BEGIN;
        for (int what = 0; what < COUNTS; what++) {
            d = d * 31 + many(what);
        }
        for (int place = 0; place < roots.queue.size(); place++) {
            d = d * 31 + queue(place);
        }
        for (int slot = 0; slot < SLOTS; slot++) {
            d = d * 31 + at(slot);
        }
        int freed = wouldFree(true);
        for (int object = 0; object < all.size(); object++) {
            Thing thing = all.item(object);
            if (thing != null && thing.place != GONE) {
                d = digestOf(thing, d, freed);
            }
        }
        d = d * 31 + freed;
        d = d * 31 + wouldFree(false);
        return d * 31 + addressFor(DIGEST_FIELDS);
    }

    /** What wouldFree(true) answers is handed in, so that a digest finds it once for all OBJECTS. */
    private long digestOf(Thing thing, long digestSoFar, int freed) {
        long d = digestSoFar * 31 + thing.number;
        for (int what = 0; what < TRAITS; what++) {
            d = d * 31 + ofObject(thing.number, what);
        }
        for (int field = 0; field < thing.fields.length; field++) {
            d = d * 31 + numberOf(thing.read(field));
        }
        d = d * 31 + (isReachable(thing.number) ? 1 : 0);
        return d * 31 + (trace.wordsFreed(true, thing) - freed);
    }

    private Thing madeAs(int object) {
        Thing thing = all.item(object);
        if (thing == null) {
            throw new IndexOutOfBoundsException("there was no such OBJECT");
        }
        return thing;
    }

    private Thing occupant(int slot) {
        Thing thing = roots.readSlot(slot);
        if (thing == null) {
            throw new IllegalStateException("the SLOT is NONE");
        }
        return thing;
    }

    private void requireMarking() {
        if (!marking.isOn()) {
            throw new IllegalStateException("MARKING does not go on");
        }
    }

    private static void requireSlot(int slot) {
        if (slot < 0 || slot >= SLOTS) {
            throw new IndexOutOfBoundsException("no such SLOT");
        }
    }

    private static void requireSlotOrNone(int slot) {
        if (slot != NONE) {
            requireSlot(slot);
        }
    }

    private static void requireField(Thing thing, int field) {
        if (!thing.hasField(field)) {
            throw new IndexOutOfBoundsException("the OBJECT has no such FIELD");
        }
    }

    private static int leastFields(int kind) {
        if (kind == PAIR) {
            return 2;
        }
        return kind == WEAK || kind == SOFT ? 1 : 0;
    }

    /** Whether a FULL lets the REFERENT of such a KIND go. */
    private static boolean isLoose(int kind, boolean isSoftKept) {
        return kind == WEAK || kind == SOFT && !isSoftKept;
    }

    private static int numberOf(Thing thing) {
        return thing == null ? NONE : thing.number;
    }

    /** An OBJECT. One that is GONE stays, so that its number and its count of FIELDS are known for good. */
    private static final class Thing {
        final int number;
        final Thing[] fields;
        int kind;
        int place;
        int address;
        int size;
        int sizeBehindMove;
        int age;
        int hash;
        boolean isPinned;
        int colour;

        // Scratch of the collectors: each sets them anew before it reads them.
        boolean isMoved;
        boolean isMarked;
        boolean isCut;

        Thing(int number, int kind, int fieldCount) {
            this.number = number;
            this.kind = kind;
            fields = new Thing[fieldCount];
            size = HEAD_WORDS + fieldCount;
            sizeBehindMove = size;
            hash = NONE;
        }

        boolean hasField(int field) {
            return field >= 0 && field < fields.length;
        }

        Thing read(int field) {
            return field >= 0 && field < fields.length ? fields[field] : null;
        }

        void write(int field, Thing other) {
            if (field >= 0 && field < fields.length) {
                fields[field] = other;
            }
        }

        boolean hasYoungField() {
            for (int field = 0; field < fields.length; field++) {
                Thing other = fields[field];
                if (other != null && other.place == YOUNG) {
                    return true;
                }
            }
            return false;
        }

        int end() {
            return address + size;
        }

        int card() {
            return (address - OLD_BEGIN) / CARD_WORDS;
        }

        void giveHash(int given) {
            hash = given;
            sizeBehindMove = size + 1;
        }

        void moveTo(int newPlace, int newAddress) {
            size = sizeBehindMove;
            place = newPlace;
            address = newAddress;
        }

        void vanish() {
            place = GONE;
            colour = WHITE;
            for (int field = 0; field < fields.length; field++) {
                fields[field] = null;
            }
        }
    }

    /** OBJECTS in an order; no OBJECT stands in a row twice, so that there is always room for one more. */
    private static final class Row {
        private final Thing[] things = new Thing[MOST_OBJECTS];
        private int size;

        int size() {
            return size;
        }

        Thing item(int index) {
            return index >= 0 && index < size && index < things.length ? things[index] : null;
        }

        void add(Thing thing) {
            if (size >= 0 && size < things.length) {
                things[size] = thing;
                size++;
            }
        }

        void addByAddress(Thing thing) {
            add(thing);
            for (int index = size - 1; index > 0 && index < things.length; index--) {
                Thing ahead = things[index - 1];
                if (ahead == null || ahead.address <= thing.address) {
                    return;
                }
                things[index] = ahead;
                things[index - 1] = thing;
            }
        }

        Thing removeFirst() {
            Thing first = item(0);
            if (first != null) {
                for (int index = 1; index < size && index < things.length; index++) {
                    things[index - 1] = things[index];
                }
                size--;
            }
            return first;
        }

        void keepOnly(int place) {
            int seen = size;
            size = 0;
            for (int index = 0; index < seen && index < things.length; index++) {
                Thing thing = things[index];
                if (thing != null && thing.place == place) {
                    add(thing);
                }
            }
        }

        void clear() {
            size = 0;
        }

        int words() {
            int words = 0;
            for (int index = 0; index < size && index < things.length; index++) {
                Thing thing = things[index];
                if (thing != null) {
                    words += thing.size;
                }
            }
            return words;
        }

        int pinned() {
            int pinned = 0;
            for (int index = 0; index < size && index < things.length; index++) {
                Thing thing = things[index];
                if (thing != null && thing.isPinned) {
                    pinned++;
                }
            }
            return pinned;
        }
    }

    /** FRAMES, GLOBALS and the QUEUE. */
    private static final class Roots {
        final Row queue = new Row();
        private final Thing[] slots = new Thing[MOST_FRAMES * SLOTS];
        private final Thing[] globals = new Thing[GLOBALS];
        private int frames = 1;

        int frames() {
            return frames;
        }

        void addFrame() {
            if (frames < MOST_FRAMES) {
                frames++;
            }
        }

        void dropFrame() {
            for (int slot = 0; slot < SLOTS; slot++) {
                writeSlot(slot, null);
            }
            if (frames > 1) {
                frames--;
            }
        }

        private int indexOf(int slot) {
            return slot < 0 || slot >= SLOTS ? NONE : (frames - 1) * SLOTS + slot;
        }

        Thing readSlot(int slot) {
            int index = indexOf(slot);
            return index >= 0 && index < slots.length ? slots[index] : null;
        }

        void writeSlot(int slot, Thing thing) {
            int index = indexOf(slot);
            if (index >= 0 && index < slots.length) {
                slots[index] = thing;
            }
        }

        Thing readGlobal(int global) {
            return global >= 0 && global < globals.length ? globals[global] : null;
        }

        void writeGlobal(int global, Thing thing) {
            if (global >= 0 && global < globals.length) {
                globals[global] = thing;
            }
        }

        int count() {
            return frames * SLOTS + GLOBALS + queue.size();
        }

        /** The roots stand in the order in which a MINOR looks at them. */
        Thing root(int index) {
            int inFrames = frames * SLOTS;
            if (index < inFrames) {
                return index >= 0 && index < slots.length ? slots[index] : null;
            }
            int global = index - inFrames;
            return global < GLOBALS ? readGlobal(global) : queue.item(global - GLOBALS);
        }
    }

    /** YOUNG, OLD and LARGE, each with its OBJECTS by address, and the CARDS. */
    private static final class Places {
        final Row young = new Row();
        final Row old = new Row();
        final Row large = new Row();
        int half;
        int youngTop;
        int oldTop = OLD_BEGIN;
        int oldWords = OLD_LEAST;
        private final boolean[] dirty = new boolean[CARDS];

        int things() {
            return young.size() + old.size() + large.size();
        }

        int words() {
            return young.words() + old.words() + large.words();
        }

        int gapFor(int fields) {
            int size = HEAD_WORDS + fields;
            if (fields >= LARGE_FIELDS) {
                return largeGapFor(size);
            }
            return youngTop + size <= half + HALF_WORDS ? youngTop : NONE;
        }

        private int largeGapFor(int size) {
            int end = LARGE_BEGIN;
            for (int index = 0; index < large.size(); index++) {
                Thing thing = large.item(index);
                if (thing != null) {
                    if (thing.address - end >= size) {
                        return end;
                    }
                    end = thing.end();
                }
            }
            return LARGE_END - end >= size ? end : NONE;
        }

        int largeGaps() {
            int gaps = 0;
            int end = LARGE_BEGIN;
            for (int index = 0; index < large.size(); index++) {
                Thing thing = large.item(index);
                if (thing != null) {
                    if (thing.address > end) {
                        gaps++;
                    }
                    end = thing.end();
                }
            }
            return LARGE_END > end ? gaps + 1 : gaps;
        }

        void lay(Thing thing, int address) {
            if (thing.fields.length >= LARGE_FIELDS) {
                thing.moveTo(LARGE, address);
                large.addByAddress(thing);
            } else {
                thing.moveTo(YOUNG, address);
                young.add(thing);
                youngTop = thing.end();
            }
        }

        int oldRoom() {
            return OLD_BEGIN + oldWords - oldTop;
        }

        boolean canOldTakeYoung() {
            int words = 0;
            for (int index = 0; index < young.size(); index++) {
                Thing thing = young.item(index);
                if (thing != null) {
                    words += thing.sizeBehindMove;
                }
            }
            return words <= oldRoom();
        }

        void moveToOld(Thing thing) {
            thing.moveTo(OLD, oldTop);
            oldTop = thing.end();
            old.add(thing);
        }

        /** The TOP of the HALF stays: a hole in it is not filled again. */
        void moveOutOfYoung(Thing thing) {
            moveToOld(thing);
            young.keepOnly(YOUNG);
            if (thing.hasYoungField()) {
                soil(thing);
            }
        }

        /** (d) to (f) of a FULL, but for the CARDS; returns the SIZES of what moved. */
        int compact() {
            young.keepOnly(YOUNG);
            old.keepOnly(OLD);
            large.keepOnly(LARGE);
            int movedWords = slideOld();
            movedWords += emptyYoung();
            resizeOld();
            return movedWords;
        }

        private int slideOld() {
            int movedWords = 0;
            oldTop = OLD_BEGIN;
            for (int index = 0; index < old.size(); index++) {
                Thing thing = old.item(index);
                if (thing != null) {
                    if (!thing.isPinned && thing.address != oldTop) {
                        thing.moveTo(OLD, oldTop);
                        movedWords += thing.size;
                    }
                    oldTop = thing.end();
                }
            }
            return movedWords;
        }

        private int emptyYoung() {
            if (!canOldTakeYoung()) {
                return 0;
            }
            for (int index = 0; index < young.size(); index++) {
                Thing thing = young.item(index);
                if (thing != null) {
                    moveToOld(thing);
                }
            }
            int movedWords = young.words();
            young.clear();
            half = 0;
            youngTop = 0;
            return movedWords;
        }

        private void resizeOld() {
            int used = oldTop - OLD_BEGIN;
            if (used * 4 > oldWords * 3) {
                oldWords = Math.min(OLD_MOST, oldWords + OLD_CHANGE);
            } else if (used * 4 < oldWords) {
                oldWords = Math.max(Math.max(OLD_LEAST, used), oldWords - OLD_CHANGE);
            }
        }

        void renewCards() {
            for (int card = 0; card < dirty.length; card++) {
                dirty[card] = false;
            }
            soilYoungHolders(old);
            soilYoungHolders(large);
        }

        private void soilYoungHolders(Row row) {
            for (int index = 0; index < row.size(); index++) {
                Thing thing = row.item(index);
                if (thing != null && thing.hasYoungField()) {
                    soil(thing);
                }
            }
        }

        private void soil(Thing thing) {
            int card = thing.card();
            if (card >= 0 && card < dirty.length) {
                dirty[card] = true;
            }
        }

        void noteWritten(Thing thing, Thing written) {
            if (thing.place != YOUNG && written != null && written.place == YOUNG) {
                soil(thing);
            }
        }

        boolean isCardDirty(int card) {
            return card >= 0 && card < dirty.length && dirty[card];
        }

        int dirtyCards() {
            int cards = 0;
            for (int card = 0; card < dirty.length; card++) {
                if (dirty[card]) {
                    cards++;
                }
            }
            return cards;
        }
    }

    /** What was done, and what it TOUCHED. */
    private static final class Tally {
        int minors;
        int fulls;
        int latestTouched;
        int mostTouched;

        void noteTouched(int words) {
            latestTouched = words;
            mostTouched = Math.max(mostTouched, words);
        }
    }

    /** MARKING in steps. */
    private static final class Marking {
        private final Row all;
        private final Roots roots;
        private boolean isOn;

        Marking(Row all, Roots roots) {
            this.all = all;
            this.roots = roots;
        }

        boolean isOn() {
            return isOn;
        }

        void begin() {
            for (int index = 0; index < all.size(); index++) {
                Thing thing = all.item(index);
                if (thing != null) {
                    thing.colour = WHITE;
                }
            }
            isOn = true;
            greyRoots();
        }

        void end() {
            isOn = false;
        }

        private void greyRoots() {
            for (int index = 0; index < roots.count(); index++) {
                grey(roots.root(index));
            }
            for (int index = 0; index < all.size(); index++) {
                Thing thing = all.item(index);
                if (thing != null && thing.isPinned) {
                    grey(thing);
                }
            }
        }

        private static void grey(Thing thing) {
            if (thing != null && thing.colour == WHITE) {
                thing.colour = GREY;
            }
        }

        int greys() {
            int greys = 0;
            for (int index = 0; isOn && index < all.size(); index++) {
                Thing thing = all.item(index);
                if (thing != null && thing.colour == GREY) {
                    greys++;
                }
            }
            return greys;
        }

        /** Does a step; returns the OBJECT that became BLACK, or null without a GREY one. */
        Thing blackenNext() {
            for (int index = 0; index < all.size(); index++) {
                Thing thing = all.item(index);
                if (thing != null && thing.colour == GREY) {
                    thing.colour = BLACK;
                    for (int field = thing.kind == WEAK ? REFERENT + 1 : 0; field < thing.fields.length; field++) {
                        grey(thing.fields[field]);
                    }
                    return thing;
                }
            }
            return null;
        }

        void blackenAll() {
            greyRoots();
            for (int done = 0; done < MOST_OBJECTS; done++) {
                if (blackenNext() == null) {
                    return;
                }
            }
        }

        void noteMade(Thing thing) {
            if (isOn) {
                thing.colour = BLACK;
            }
        }

        void noteWritten(Thing thing, Thing written) {
            if (isOn && thing.colour == BLACK) {
                grey(written);
            }
        }
    }

    /** What is MARKED, and what would be: it changes nothing but the scratch of the OBJECTS. */
    private static final class Trace {
        private final Row all;
        private final Roots roots;
        private final Row marked = new Row();
        private int scanned;
        private boolean isSoftKept;
        private Thing hollow;

        Trace(Row all, Roots roots) {
            this.all = all;
            this.roots = roots;
        }

        /** The hollow OBJECT, if there is one, is taken as if all its FIELDS were NONE. */
        void begin(boolean isSoftKeptNow, Thing hollowNow) {
            isSoftKept = isSoftKeptNow;
            hollow = hollowNow;
            marked.clear();
            scanned = 0;
            for (int index = 0; index < all.size(); index++) {
                Thing thing = all.item(index);
                if (thing != null) {
                    thing.isMarked = false;
                    thing.isCut = false;
                }
            }
        }

        void markRoots() {
            for (int index = 0; index < roots.count(); index++) {
                mark(roots.root(index));
            }
            for (int index = 0; index < all.size(); index++) {
                Thing thing = all.item(index);
                if (thing != null && thing.isPinned) {
                    mark(thing);
                }
            }
        }

        /** The FIELDS of BLACK ones were looked at by their steps. */
        void markBlack() {
            for (int index = 0; index < all.size(); index++) {
                Thing thing = all.item(index);
                if (thing != null && thing.colour == BLACK) {
                    mark(thing);
                }
            }
            scanned = marked.size();
        }

        void mark(Thing thing) {
            if (thing != null && !thing.isMarked) {
                thing.isMarked = true;
                marked.add(thing);
            }
        }

        /** Marks what follows from what is MARKED; each round but the last marks one VALUE at least. */
        void spread() {
            for (int round = 0; round <= MOST_OBJECTS; round++) {
                for (; scanned < MOST_OBJECTS && scanned < marked.size(); scanned++) {
                    markFieldsOf(marked.item(scanned));
                }
                if (!markValues()) {
                    return;
                }
            }
        }

        private void markFieldsOf(Thing thing) {
            if (thing == null || thing == hollow) {
                return;
            }
            for (int field = firstStrongField(thing.kind); field < thing.fields.length; field++) {
                mark(thing.fields[field]);
            }
        }

        private int firstStrongField(int kind) {
            if (kind == PAIR) {
                return VALUE + 1;
            }
            return isLoose(kind, isSoftKept) ? REFERENT + 1 : 0;
        }

        private boolean markValues() {
            int before = marked.size();
            for (int index = 0; index < before; index++) {
                Thing thing = marked.item(index);
                if (thing != null && thing.kind == PAIR && thing != hollow && !thing.isCut && hasMarked(thing, KEY)) {
                    mark(thing.read(VALUE));
                }
            }
            return marked.size() > before;
        }

        static boolean hasMarked(Thing thing, int field) {
            Thing other = thing.read(field);
            return other != null && other.isMarked;
        }

        /** How many words would be GONE: (a) to (c) of a FULL, without their changes. */
        int wordsFreed(boolean isSoftKeptNow, Thing hollowNow) {
            begin(isSoftKeptNow, hollowNow);
            markRoots();
            spread();
            cutPairs();
            for (int index = 0; index < all.size(); index++) {
                Thing thing = all.item(index);
                if (thing != null && thing.place != GONE && thing.kind == FINAL) {
                    mark(thing);
                }
            }
            spread();
            int words = 0;
            for (int index = 0; index < all.size(); index++) {
                Thing thing = all.item(index);
                if (thing != null && thing.place != GONE && !thing.isMarked) {
                    words += thing.size;
                }
            }
            return words;
        }

        /** Pairs that (b) would empty lead nowhere from then on, even if their KEY rises by a FINAL one. */
        private void cutPairs() {
            for (int index = 0; index < marked.size(); index++) {
                Thing thing = marked.item(index);
                if (thing != null && thing.kind == PAIR && !hasMarked(thing, KEY)) {
                    thing.isCut = true;
                }
            }
        }
    }

    /** A FULL, and what a FINISH does behind its steps. */
    private static final class FullCollector {
        private final Row all;
        private final Roots roots;
        private final Places places;
        private final Tally tally;
        private final Marking marking;
        private final Trace trace;

        FullCollector(Row all, Roots roots, Places places, Tally tally, Marking marking, Trace trace) {
            this.all = all;
            this.roots = roots;
            this.places = places;
            this.tally = tally;
            this.marking = marking;
            this.trace = trace;
        }

        /** Returns how many are GONE by that. */
        int run(boolean isSoftKept, boolean isFinish) {
            trace.begin(isSoftKept, null);
            if (isFinish) {
                trace.markBlack();
            } else {
                trace.markRoots();
                trace.spread();
            }
            dropReferences(isSoftKept);
            raiseFinals();
            trace.spread();
            dropReferences(isSoftKept);
            int gone = sweep();
            int movedWords = places.compact();
            places.renewCards();
            marking.end();
            tally.fulls++;
            tally.noteTouched(places.words() + movedWords);
            return gone;
        }

        private void dropReferences(boolean isSoftKept) {
            for (int index = 0; index < all.size(); index++) {
                Thing thing = all.item(index);
                if (thing != null && thing.kind == PAIR && thing.isMarked && !Trace.hasMarked(thing, KEY)) {
                    thing.write(KEY, null);
                    thing.write(VALUE, null);
                }
                if (thing != null && isLoose(thing.kind, isSoftKept) && !Trace.hasMarked(thing, REFERENT)) {
                    thing.write(REFERENT, null);
                }
            }
        }

        private void raiseFinals() {
            for (int index = 0; index < all.size(); index++) {
                Thing thing = all.item(index);
                if (thing != null && thing.place != GONE && thing.kind == FINAL && !thing.isMarked) {
                    thing.kind = PLAIN;
                    roots.queue.add(thing);
                    trace.mark(thing);
                }
            }
        }

        private int sweep() {
            int gone = 0;
            for (int index = 0; index < all.size(); index++) {
                Thing thing = all.item(index);
                if (thing != null && thing.place != GONE && !thing.isMarked) {
                    thing.vanish();
                    gone++;
                }
            }
            return gone;
        }
    }

    /** A MINOR, for which OLD has room. */
    private static final class MinorCollector {
        int tenureAge = FIRST_TENURE;
        private final Row all;
        private final Roots roots;
        private final Places places;
        private final Tally tally;

        /** Those on DIRTY CARDS, then those that moved: the order in which their FIELDS are looked at. */
        private final Row sources = new Row();
        private int followed;
        private int otherHalf;
        private int otherTop;

        MinorCollector(Row all, Roots roots, Places places, Tally tally) {
            this.all = all;
            this.roots = roots;
            this.places = places;
            this.tally = tally;
        }

        int run() {
            begin();
            for (int index = 0; index < roots.count(); index++) {
                move(roots.root(index));
            }
            follow();
            dropReferents();
            raiseFinals();
            follow();
            dropReferents();
            int gone = leaveHalf();
            places.renewCards();
            tally.minors++;
            tally.noteTouched(sources.words());
            return gone;
        }

        private void begin() {
            sources.clear();
            followed = 0;
            otherHalf = places.half == 0 ? HALF_WORDS : 0;
            otherTop = otherHalf;
            for (int index = 0; index < all.size(); index++) {
                Thing thing = all.item(index);
                if (thing != null) {
                    thing.isMoved = false;
                }
            }
            addDirty(places.old);
            addDirty(places.large);
        }

        private void addDirty(Row row) {
            for (int index = 0; index < row.size(); index++) {
                Thing thing = row.item(index);
                if (thing != null && places.isCardDirty(thing.card())) {
                    sources.add(thing);
                }
            }
        }

        private static boolean isLeft(Thing thing) {
            return thing != null && thing.place == YOUNG && !thing.isMoved;
        }

        private void move(Thing thing) {
            if (thing == null || !isLeft(thing)) {
                return;
            }
            thing.isMoved = true;
            thing.age++;
            boolean hasRoom = otherTop + thing.sizeBehindMove <= otherHalf + HALF_WORDS;
            if (thing.age >= tenureAge || !hasRoom) {
                places.moveToOld(thing);
            } else {
                thing.moveTo(YOUNG, otherTop);
                otherTop = thing.end();
            }
            sources.add(thing);
        }

        private void follow() {
            for (; followed < MOST_OBJECTS && followed < sources.size(); followed++) {
                Thing source = sources.item(followed);
                if (source != null) {
                    for (int field = source.kind == WEAK ? REFERENT + 1 : 0; field < source.fields.length; field++) {
                        move(source.fields[field]);
                    }
                }
            }
        }

        private void dropReferents() {
            for (int index = 0; index < all.size(); index++) {
                Thing thing = all.item(index);
                if (thing != null && thing.kind == WEAK && !isLeft(thing) && isLeft(thing.read(REFERENT))) {
                    thing.write(REFERENT, null);
                }
            }
        }

        private void raiseFinals() {
            for (int index = 0; index < all.size(); index++) {
                Thing thing = all.item(index);
                if (thing != null && thing.kind == FINAL && isLeft(thing)) {
                    thing.kind = PLAIN;
                    roots.queue.add(thing);
                    move(thing);
                }
            }
        }

        /** (d); returns how many are GONE by it. */
        private int leaveHalf() {
            int gone = 0;
            for (int index = 0; index < places.young.size(); index++) {
                Thing thing = places.young.item(index);
                if (thing != null && isLeft(thing)) {
                    thing.vanish();
                    gone++;
                }
            }
            places.young.clear();
            for (int index = 0; index < sources.size(); index++) {
                Thing thing = sources.item(index);
                if (thing != null && thing.place == YOUNG) {
                    places.young.add(thing);
                }
            }
            places.half = otherHalf;
            places.youngTop = otherTop;
            return gone;
        }
    }
}
