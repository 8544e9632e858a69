import java.util.Arrays;

/** A house of documents: requests are documents as bytes, and so are answers. */
public final class DocumentHouse {
    private static final int TEXT = 2;
    private static final int DOCUMENT = 3;
    private static final int ROW = 4;
    private static final int TRUTH = 8;
    private static final int NOTHING = 10;
    private static final int WHOLE32 = 16;
    private static final int WHOLE64 = 18;

    private static final int TAPE_MOST = 2000;
    private static final int DOCUMENT_MOST = 2000;
    private static final int ANSWER_MOST = 8000;
    private static final int DOCUMENTS_MOST = 200;
    private static final int BYTES_MOST = 40000;
    private static final int ENTRIES_MOST = 1000;
    private static final int KEY_MOST = 64;
    private static final int INDEXES_MOST = 4;
    private static final int DEEP_MOST = 16;
    private static final int STEPS_MOST = 8;
    /** No document here can be deeper than this, even in the middle of a change. */
    private static final int DEEP_GUARD = 60;
    /** No document or row here can have more elements than this. */
    private static final int ELEMENTS_GUARD = 100000;

    /** Where a value is missing: no place among the bytes. */
    private static final int MISSING = -1;

    /** Every document stands behind a head of two bytes, so that it is an element without a name. */
    private static final int HEAD = 2;
    private static final int NOTHING_AT = 0;
    private static final int REQUEST = 2;
    private static final int REQUEST_BYTES = REQUEST + HEAD;
    private static final int SHELVES = REQUEST_BYTES + TAPE_MOST + 4;
    private static final int SHELF_ROOM = BYTES_MOST + DOCUMENTS_MOST * HEAD;
    private static final int BELTS = SHELVES + 2 * SHELF_ROOM;
    private static final int WORK = BELTS + 2 * SHELF_ROOM;
    private static final int WORK_ROOM = 2 * SHELF_ROOM + 2000;
    private static final int ROOM_END = WORK + WORK_ROOM;

    private static final int INSERT = 1;
    private static final int FIND = 2;
    private static final int COUNT = 3;
    private static final int UPDATE = 4;
    private static final int DELETE = 5;
    private static final int INDEX = 6;
    private static final int DROP = 7;
    private static final int PIPELINE = 8;
    private static final int EXPLAIN = 9;
    private static final int SHAPE = 10;

    private static final int FAULT_REQUEST = 9;
    private static final int FAULT_FILTER = 10;
    private static final int FAULT_CHANGE = 20;
    private static final int FAULT_STAGE = 30;
    private static final int FAULT_ROOM = 40;
    private static final int FAULT_NO_INDEX = 41;

    private final byte[] b;
    private final Out out;
    private final Reader reader;
    private final Filter filter;
    private final Change change;
    private final Stages stages;
    private final Bounds bounds;
    private final Path path;
    private final Path otherPath;
    private final Shelf[] shelves;
    private final boolean[] hits;
    private final int[] renewed;
    private int tape;
    private int operation;
    private int head;
    private int third;
    private Shelf shelf;
    private int fault;
    private int place;

    public DocumentHouse() {
        Room room = new Room();
        b = room.bytes;
        out = new Out(new byte[ANSWER_MOST], 0, ANSWER_MOST);
        reader = new Reader(b);
        filter = new Filter(room);
        change = new Change(b);
        stages = new Stages(room);
        bounds = new Bounds(room);
        path = new Path();
        otherPath = new Path();
        shelves = new Shelf[] {new Shelf(room, SHELVES), new Shelf(room, SHELVES + SHELF_ROOM)};
        hits = new boolean[DOCUMENTS_MOST];
        renewed = new int[DOCUMENTS_MOST];
        shelf = shelves[0];
    }

    public int feed(int a, int b, int c, int d, int e) {
        if (tape + 20 > TAPE_MOST) {
            return -1;
        }
        putOnTape(a);
        putOnTape(b);
        putOnTape(c);
        putOnTape(d);
        putOnTape(e);
        return tape;
    }

    private void putOnTape(int word) {
        int at = REQUEST_BYTES + tape;
        b[at] = (byte) (word >> 24);
        b[at + 1] = (byte) (word >> 16);
        b[at + 2] = (byte) (word >> 8);
        b[at + 3] = (byte) word;
        tape += 4;
    }

    public int ask(int n) {
        if (n < 0 || n > tape) {
            return -1;
        }
        tape = 0;
        fault = 0;
        out.start(0, ANSWER_MOST);
        out.open();
        if (!reader.reads(n)) {
            fail(reader.fault, reader.place);
        } else {
            int wrong = wrongInRequest();
            if (wrong >= 0) {
                failAt(FAULT_REQUEST, wrong);
            }
        }
        if (fault == 0) {
            switch (operation) {
                case INSERT: insert(); break;
                case FIND: find(); break;
                case COUNT: count(); break;
                case UPDATE: update(); break;
                case DELETE: delete(); break;
                case INDEX: makeIndex(); break;
                case DROP: drop(); break;
                case PIPELINE: pipeline(); break;
                case EXPLAIN: explain(); break;
                default: shape(); break;
            }
        }
        out.close(0);
        if (fault == 0 && out.over) {
            fail(FAULT_ROOM, -1);
        }
        if (fault != 0) {
            tellFault();
        }
        return out.at;
    }

    private void tellFault() {
        out.start(0, ANSWER_MOST);
        out.open();
        out.named("fault", fault);
        out.named("place", place);
        out.close(0);
    }

    private void fail(int told, int where) {
        fault = told;
        place = where;
    }

    private void failAt(int told, int position) {
        fail(told, position - REQUEST_BYTES);
    }

    public int answer(int i) {
        return i >= 0 && i < out.at && i < out.b.length ? out.b[i] & 255 : -1;
    }

    public int state(int what) {
        switch (what) {
            case 0: case 1: return shelves[what].count;
            case 2: case 3: return shelves[what - 2].total;
            case 4: case 5: return shelves[what - 4].indexCount();
            case 6: return out.at;
            case 7: return tape;
            default: return -1;
        }
    }

    public int number(int shelf, int k) {
        return standsOn(shelf, k) ? shelves[shelf].numbers[k] : 0;
    }

    public int size(int shelf, int k) {
        return standsOn(shelf, k) ? Room.whole4(b, shelves[shelf].at[k] + HEAD) : -1;
    }

    public int byteAt(int shelf, int k, int i) {
        if (!standsOn(shelf, k) || i < 0) {
            return -1;
        }
        int at = shelves[shelf].at[k] + HEAD;
        return i < Room.whole4(b, at) && at + i < b.length ? b[at + i] & 255 : -1;
    }

    private boolean standsOn(int which, int k) {
        return (which == 0 || which == 1) && k >= 0 && k < shelves[which].count && k < DOCUMENTS_MOST;
    }

    // ---- the form of a request ----

    /** The place of the first thing for which the document is no request; -1 when it is one. */
    private int wrongInRequest() {
        head = Room.first(b, REQUEST);
        operation = operationOf(head);
        if (operation == 0) {
            return head;
        }
        int wrong = wrongInHead();
        if (wrong >= 0) {
            return wrong;
        }
        int at = Room.next(b, head);
        if (!isShelf(at)) {
            return at;
        }
        shelf = shelves[Room.whole(b, at) == 0 ? 0 : 1];
        at = Room.next(b, at);
        third = at;
        if (operation == UPDATE || operation == INDEX) {
            wrong = operation == UPDATE ? wrongChange() : wrongDown();
            if (wrong >= 0) {
                return wrong;
            }
            at = Room.next(b, at);
        }
        return Room.kind(b, at) == 0 ? -1 : at;
    }

    private int operationOf(int e) {
        if (Room.kind(b, e) == 0) {
            return 0;
        }
        return Room.named(b, e, "insert") ? INSERT : Room.named(b, e, "find") ? FIND
            : Room.named(b, e, "count") ? COUNT : Room.named(b, e, "update") ? UPDATE
            : Room.named(b, e, "delete") ? DELETE : Room.named(b, e, "index") ? INDEX
            : Room.named(b, e, "drop") ? DROP : Room.named(b, e, "pipeline") ? PIPELINE
            : Room.named(b, e, "explain") ? EXPLAIN : Room.named(b, e, "shape") ? SHAPE : 0;
    }

    private boolean isShelf(int e) {
        if (!Room.isNumber(b, e) || !Room.named(b, e, "shelf")) {
            return false;
        }
        long which = Room.whole(b, e);
        return which == 0 || which == 1;
    }

    private int wrongInHead() {
        int kind = Room.kind(b, head);
        switch (operation) {
            case DROP: case SHAPE: return Room.isNumber(b, head) ? -1 : head;
            case PIPELINE: return wrongPipeline();
            case INDEX: return wrongPaths();
            default: return kind == DOCUMENT ? -1 : head;
        }
    }

    private int wrongPipeline() {
        if (Room.kind(b, head) != ROW) {
            return head;
        }
        int item = Room.first(b, head);
        for (int i = 0; i < ELEMENTS_GUARD && Room.kind(b, item) != 0; i++) {
            if (Room.kind(b, item) != DOCUMENT) {
                return item;
            }
            item = Room.next(b, item);
        }
        return -1;
    }

    private int wrongPaths() {
        int item = Room.first(b, head);
        if (Room.kind(b, head) != ROW || Room.kind(b, item) == 0) {
            return head;
        }
        if (Room.kind(b, item) != TEXT || !path.setPlainText(b, item, 0)) {
            return item;
        }
        int second = Room.next(b, item);
        if (Room.kind(b, second) == 0) {
            return -1;
        }
        if (Room.kind(b, second) != TEXT || !otherPath.setPlainText(b, second, 0)
            || Room.compare(b, item, b, second, 0) == 0) {
            return second;
        }
        int more = Room.next(b, second);
        return Room.kind(b, more) == 0 ? -1 : more;
    }

    private int wrongChange() {
        return Room.kind(b, third) == DOCUMENT && Room.named(b, third, "change") ? -1 : third;
    }

    private int wrongDown() {
        if (Room.kind(b, third) != ROW || !Room.named(b, third, "down")
            || Room.items(b, third) != Room.items(b, head)) {
            return third;
        }
        int item = Room.first(b, third);
        for (int i = 0; i < ELEMENTS_GUARD && Room.kind(b, item) != 0; i++) {
            if (Room.kind(b, item) != TRUTH) {
                return item;
            }
            item = Room.next(b, item);
        }
        return -1;
    }

    // ---- the requests ----

    private void insert() {
        int length = Room.next(b, head) - Room.valueAt(b, head);
        boolean fits = shelf.count < DOCUMENTS_MOST && shelf.total + length <= BYTES_MOST;
        for (int i = 0; i < INDEXES_MOST && fits; i++) {
            fits = shelf.indexes[i].fitsAnother(head);
        }
        if (!fits) {
            fail(FAULT_ROOM, -1);
            return;
        }
        int added = shelf.add(head);
        for (int k = 0; k < shelf.count; k++) {
            hits[k] = k == added;
        }
        for (int i = 0; i < INDEXES_MOST; i++) {
            shelf.indexes[i].takesIn(shelf, hits);
        }
        out.named("number", shelf.numbers[added]);
    }

    /** Tells for which documents of the shelf the request's filter holds; -1 when it has a fault. */
    private int hitsOfFilter() {
        if (!filter.isRight(head)) {
            failAt(FAULT_FILTER + filter.fault, filter.place);
            return -1;
        }
        int many = 0;
        for (int k = 0; k < shelf.count; k++) {
            hits[k] = filter.holds(head, shelf.at[k], 0);
            many += hits[k] ? 1 : 0;
        }
        return many;
    }

    private void find() {
        int many = hitsOfFilter();
        if (many < 0) {
            return;
        }
        out.named("many", many);
        out.head(ROW, "found");
        int row = out.open();
        int found = 0;
        for (int k = 0; k < shelf.count; k++) {
            if (!hits[k]) {
                continue;
            }
            out.item(DOCUMENT, found);
            int item = out.open();
            out.named("number", shelf.numbers[k]);
            out.head(DOCUMENT, "is");
            out.value(b, shelf.at[k]);
            out.close(item);
            found++;
        }
        out.close(row);
    }

    private void count() {
        int many = hitsOfFilter();
        if (many >= 0) {
            out.named("many", many);
        }
    }

    private void delete() {
        int many = hitsOfFilter();
        if (many < 0) {
            return;
        }
        for (int i = 0; i < INDEXES_MOST; i++) {
            shelf.indexes[i].takesOut(shelf, hits);
        }
        shelf.remove(hits);
        out.named("many", many);
    }

    /**
     * Writes all documents of the shelf, those hit changed, to a free part of the room, as far as they find
     * room there, and takes them as the shelf's when nothing is wrong with any of them.
     */
    private void update() {
        int many = hitsOfFilter();
        if (many < 0) {
            return;
        }
        if (!change.isRight(third)) {
            failAt(FAULT_CHANGE + change.fault, change.place);
            return;
        }
        Out renewing = shelf.renewing;
        renewing.start(BELTS, BELTS + SHELF_ROOM);
        int total = 0;
        int changed = 0;
        for (int k = 0; k < shelf.count; k++) {
            int from = shelf.at[k];
            if (hits[k]) {
                if (!change.does(from, third)) {
                    failAt(FAULT_CHANGE + change.fault, change.place);
                    return;
                }
                from = WORK;
                hits[k] = change.changed;
                changed += change.changed ? 1 : 0;
            }
            renewed[k] = renewing.at;
            renewing.copy(b, from, Room.next(b, from));
            total += Room.whole4(b, from + HEAD);
        }
        boolean fits = total <= BYTES_MOST;
        for (int i = 0; i < INDEXES_MOST && fits; i++) {
            fits = shelf.indexes[i].fitsAll(renewed, shelf.count);
        }
        if (!fits) {
            fail(FAULT_ROOM, -1);
            return;
        }
        for (int i = 0; i < INDEXES_MOST; i++) {
            shelf.indexes[i].takesOut(shelf, hits);
        }
        shelf.renew(renewed);
        for (int i = 0; i < INDEXES_MOST; i++) {
            shelf.indexes[i].takesIn(shelf, hits);
        }
        out.named("many", many);
        out.named("changed", changed);
    }

    private void makeIndex() {
        int free = shelf.freeIndex();
        if (free < 0) {
            fail(FAULT_ROOM, -1);
            return;
        }
        Index index = shelf.indexes[free];
        index.prepare(head, third);
        if (!index.fitsAll(shelf.at, shelf.count)) {
            index.stands = false;
            fail(FAULT_ROOM, -1);
            return;
        }
        for (int k = 0; k < shelf.count; k++) {
            hits[k] = true;
        }
        index.takesIn(shelf, hits);
        out.named("index", free);
    }

    /** The index that the request numbers; null, with the fault told, when there is none. */
    private Index askedIndex() {
        long which = Room.whole(b, head);
        if (which >= 0 && which < INDEXES_MOST && shelf.indexes[(int) which].stands) {
            return shelf.indexes[(int) which];
        }
        fail(FAULT_NO_INDEX, -1);
        return null;
    }

    private void drop() {
        Index index = askedIndex();
        if (index != null) {
            index.stands = false;
            out.namedTruth("dropped", true);
        }
    }

    private void shape() {
        Index index = askedIndex();
        if (index == null) {
            return;
        }
        Tree tree = index.tree;
        out.named("entries", tree.entries);
        out.named("levels", tree.levels());
        out.named("leaves", tree.leaves);
        out.named("nodes", tree.nodes);
        out.namedTruth("first", index.firstMany);
        out.namedTruth("second", index.secondMany);
    }

    private void pipeline() {
        stages.begin(shelf, shelf == shelves[0] ? shelves[1] : shelves[0]);
        int item = Room.first(b, head);
        for (int i = 0; i < ELEMENTS_GUARD && Room.kind(b, item) != 0; i++) {
            if (stages.isMatch(item)) {
                int asked = Room.first(b, item);
                if (!filter.isRight(asked)) {
                    failAt(FAULT_FILTER + filter.fault, filter.place);
                    return;
                }
                stages.match(filter, asked);
            } else {
                int wrong = stages.does(item);
                if (wrong != 0) {
                    failAt(FAULT_STAGE + wrong, item);
                    return;
                }
            }
            item = Room.next(b, item);
        }
        out.named("many", stages.count);
        out.head(ROW, "found");
        int row = out.open();
        for (int i = 0; i < stages.count; i++) {
            out.item(DOCUMENT, i);
            out.value(b, stages.belt[i]);
        }
        out.close(row);
    }

    private void explain() {
        if (!filter.isRight(head)) {
            failAt(FAULT_FILTER + filter.fault, filter.place);
            return;
        }
        int choice = -1;
        int rank = 0;
        int ranges = 1;
        int looked = shelf.count;
        for (int i = 0; i < INDEXES_MOST; i++) {
            Index index = shelf.indexes[i];
            if (!index.stands) {
                continue;
            }
            boolean first = bounds.bind(head, index.first, index.firstMany, Bounds.FIRST);
            boolean second = index.hasSecond
                && bounds.bind(head, index.second, index.secondMany, Bounds.SECOND);
            bounds.rankBy(first, second);
            if (bounds.rank > rank || first && bounds.rank == rank && bounds.ranges < ranges) {
                choice = i;
                rank = bounds.rank;
                ranges = bounds.ranges;
                looked = bounds.looksAt(index, shelf);
            }
        }
        out.named("index", choice);
        out.named("rank", rank);
        out.named("ranges", ranges);
        out.named("looked", looked);
    }

    // ---- values as bytes ----

    /**
     * The bytes of all that the house keeps, and a pile of the leaves that paths have met. A value is told by
     * the bytes and the position of its element's kind; a value that is MISSING by -1.
     */
    private static final class Room {
        private final byte[] bytes;
        private int[] pile;
        private int top;

        private Room() {
            bytes = new byte[ROOM_END];
            bytes[NOTHING_AT] = NOTHING;
            bytes[REQUEST] = DOCUMENT;
            pile = new int[256];
        }

        private void push(int leaf) {
            if (top >= pile.length) {
                pile = Arrays.copyOf(pile, 2 * pile.length);
            }
            pile[top] = leaf;
            top++;
        }

        private int leaf(int i) {
            return i >= 0 && i < top && i < pile.length ? pile[i] : MISSING;
        }

        private void put(int i, int leaf) {
            if (i >= 0 && i < top && i < pile.length) {
                pile[i] = leaf;
            }
        }

        /** Piles up the items of the leaves that are piled up from there on; what is missing becomes this. */
        private void addItems(int mark, int missing) {
            int end = top;
            if (end == mark) {
                push(missing);
            }
            for (int i = mark; i < end; i++) {
                int leaf = leaf(i);
                if (leaf < 0) {
                    put(i, missing);
                }
                if (kind(bytes, leaf) != ROW) {
                    continue;
                }
                int item = first(bytes, leaf);
                for (int k = 0; k < ELEMENTS_GUARD && kind(bytes, item) != 0; k++) {
                    push(item);
                    item = next(bytes, item);
                }
            }
        }

        private static int kind(byte[] b, int p) {
            return p >= 0 && p < b.length ? b[p] : 0;
        }

        private static int whole4(byte[] b, int p) {
            if (p < 0 || p + 4 > b.length) {
                return 0;
            }
            return b[p] & 255 | (b[p + 1] & 255) << 8 | (b[p + 2] & 255) << 16 | b[p + 3] << 24;
        }

        /** Where the value of an element begins. */
        private static int valueAt(byte[] b, int p) {
            for (int v = p < 0 ? b.length : p; v < b.length - 1; v++) {
                if (b[v + 1] == 0) {
                    return v + 2;
                }
            }
            return b.length;
        }

        /** Where the element behind this one begins; it calls nothing, since it stands lowest of all calls. */
        private static int next(byte[] b, int p) {
            if (p < 0 || p >= b.length) {
                return b.length;
            }
            int v = p + 1;
            for (; v < b.length; v++) {
                if (b[v] == 0) {
                    break;
                }
            }
            v++;
            switch (b[p]) {
                case WHOLE32: return v + 4;
                case WHOLE64: return v + 8;
                case TRUTH: return v + 1;
                case TEXT: case DOCUMENT: case ROW: break;
                default: return v;
            }
            if (v + 4 > b.length) {
                return b.length;
            }
            int length = b[v] & 255 | (b[v + 1] & 255) << 8 | (b[v + 2] & 255) << 16 | b[v + 3] << 24;
            return b[p] == TEXT ? v + 4 + length : v + length;
        }

        /** The first element of a document or row; its last byte when it has none. */
        private static int first(byte[] b, int p) {
            for (int v = p < 0 ? b.length : p; v < b.length - 1; v++) {
                if (b[v + 1] == 0) {
                    return v + 6;
                }
            }
            return b.length;
        }

        private static int items(byte[] b, int p) {
            int n = 0;
            int q = first(b, p);
            for (int i = 0; i < ELEMENTS_GUARD && kind(b, q) != 0; i++) {
                n++;
                q = next(b, q);
            }
            return n;
        }

        /** The element of a document or row that has the name that stands there; MISSING when there is none. */
        private static int find(byte[] b, int p, byte[] names, int from, int to) {
            int q = first(b, p);
            for (int i = 0; i < ELEMENTS_GUARD && kind(b, q) != 0; i++) {
                if (compareRuns(b, q + 1, valueAt(b, q) - 1, names, from, to) == 0) {
                    return q;
                }
                q = next(b, q);
            }
            return MISSING;
        }

        private static boolean named(byte[] b, int p, String name) {
            int n = name.length();
            if (p < 0 || p + 1 + n >= b.length) {
                return false;
            }
            for (int i = 0; i < n; i++) {
                if (b[p + 1 + i] != name.charAt(i)) {
                    return false;
                }
            }
            return b[p + 1 + n] == 0;
        }

        private static boolean beginsWithDollar(byte[] b, int p) {
            return p >= 0 && p + 1 < b.length && b[p + 1] == '$';
        }

        private static boolean isNumber(byte[] b, int p) {
            int kind = kind(b, p);
            return kind == WHOLE32 || kind == WHOLE64;
        }

        private static long whole(byte[] b, int p) {
            int v = valueAt(b, p);
            int low = whole4(b, v);
            return kind(b, p) == WHOLE32 ? low : low & 0xFFFFFFFFL | (long) whole4(b, v + 4) << 32;
        }

        private static boolean isTruth(byte[] b, int p, int truth) {
            return kind(b, p) == TRUTH && kind(b, valueAt(b, p)) == truth;
        }

        /** The class of a value in the order of all values. */
        private static int classOf(byte[] b, int p) {
            if (p < 0 || p >= b.length) {
                return 0;
            }
            switch (b[p]) {
                case NOTHING: return 1;
                case WHOLE32: case WHOLE64: return 2;
                case TEXT: return 3;
                case DOCUMENT: return 4;
                case ROW: return 5;
                default: return 6;
            }
        }

        private static int compare(byte[] a, int p, byte[] b, int q, int depth) {
            int order = classOf(a, p);
            if (order != classOf(b, q)) {
                return order < classOf(b, q) ? -1 : 1;
            }
            if (order < 2) {
                return 0;
            }
            int v = valueAt(a, p);
            int w = valueAt(b, q);
            switch (order) {
                case 2:
                    long x = whole4(a, v);
                    long y = whole4(b, w);
                    x = a[p] == WHOLE32 ? x : x & 0xFFFFFFFFL | (long) whole4(a, v + 4) << 32;
                    y = b[q] == WHOLE32 ? y : y & 0xFFFFFFFFL | (long) whole4(b, w + 4) << 32;
                    return Long.compare(x, y);
                case 3: return compareRuns(a, v + 4, v + 3 + whole4(a, v), b, w + 4, w + 3 + whole4(b, w));
                case 6: return Integer.compare(kind(a, v), kind(b, w));
                default: return depth > DEEP_GUARD ? 0 : compareInside(a, p, b, q, depth + 1);
            }
        }

        private static int compareInside(byte[] a, int p, byte[] b, int q, int depth) {
            boolean rows = a[p] == ROW;
            int x = valueAt(a, p) + 4;
            int y = valueAt(b, q) + 4;
            for (int i = 0; i < ELEMENTS_GUARD; i++) {
                int one = classOf(a, x);
                int other = classOf(b, y);
                if (kind(a, x) == 0 || kind(b, y) == 0) {
                    return kind(a, x) == kind(b, y) ? 0 : kind(a, x) == 0 ? -1 : 1;
                }
                if (one != other) {
                    return one < other ? -1 : 1;
                }
                int order = rows ? 0 : compareRuns(a, x + 1, valueAt(a, x) - 1, b, y + 1, valueAt(b, y) - 1);
                if (order == 0) {
                    order = compare(a, x, b, y, depth);
                }
                if (order != 0) {
                    return order;
                }
                x = next(a, x);
                y = next(b, y);
            }
            return 0;
        }

        /** Compares runs of bytes, without sign; a run is less than one that it begins. */
        private static int compareRuns(byte[] a, int from, int to, byte[] b, int begin, int end) {
            if (from < 0 || to > a.length || begin < 0 || end > b.length) {
                return 0;
            }
            int shorter = Math.min(to - from, end - begin);
            for (int i = 0; i < shorter; i++) {
                int x = a[from + i] & 255;
                int y = b[begin + i] & 255;
                if (x != y) {
                    return x < y ? -1 : 1;
                }
            }
            return Integer.compare(to - from, end - begin);
        }

        /** How deep a document or row is that stands so deep itself. */
        private static int deepest(byte[] b, int p, int level) {
            int deep = level;
            if (level > DEEP_GUARD) {
                return level;
            }
            int q = first(b, p);
            for (int i = 0; i < ELEMENTS_GUARD && kind(b, q) != 0; i++) {
                if (b[q] == DOCUMENT || b[q] == ROW) {
                    deep = Math.max(deep, deepest(b, q, level + 1));
                }
                q = next(b, q);
            }
            return deep;
        }

        /** Whether these bytes are the decimal digits of a number. */
        private static boolean isDecimal(byte[] b, int from, int to, int n) {
            int rest = n;
            for (int i = to - 1; i >= from && i >= 0 && i < b.length; i--) {
                if (b[i] != '0' + rest % 10) {
                    return false;
                }
                rest /= 10;
                if (rest == 0) {
                    return i == from;
                }
            }
            return false;
        }

        /** Where the first character begins that is no right UTF-8; -1 when there is none. */
        private static int badCharacter(byte[] b, int from, int to) {
            int p = from;
            for (int i = 0; i < ELEMENTS_GUARD && p < to; i++) {
                int length = characterLength(b, p, to);
                if (length == 0) {
                    return p;
                }
                p += length;
            }
            return -1;
        }

        /** How many bytes the character has that begins there; 0 when it is no right UTF-8. */
        private static int characterLength(byte[] b, int p, int to) {
            if (p < 0 || p >= to || to > b.length) {
                return 0;
            }
            int lead = b[p] & 255;
            if (lead < 128) {
                return 1;
            }
            int length = lead < 224 ? 2 : lead < 240 ? 3 : 4;
            if (lead < 194 || lead > 244 || p + length > to) {
                return 0;
            }
            for (int i = 1; i < length; i++) {
                if ((b[p + i] & 192) != 128) {
                    return 0;
                }
            }
            int second = b[p + 1] & 255;
            boolean wrong = lead == 224 && second < 160 || lead == 237 && second > 159
                || lead == 240 && second < 144 || lead == 244 && second > 143;
            return wrong ? 0 : length;
        }
    }

    /** Writes elements behind one another into bytes, as far as they find room there. */
    private static final class Out {
        private final byte[] b;
        private int at;
        private int limit;
        private boolean over;

        private Out(byte[] bytes, int from, int to) {
            b = bytes;
            at = from;
            limit = to;
        }

        private void start(int from, int to) {
            at = Math.max(from, 0);
            limit = Math.min(to, b.length);
            over = false;
        }

        private void put(int x) {
            if (at < limit && at < b.length) {
                b[at] = (byte) x;
                at++;
            } else {
                over = true;
            }
        }

        private void put4(int x) {
            if (at + 4 > limit || at + 4 > b.length) {
                over = true;
                return;
            }
            for (int i = 0; i < 4; i++) {
                b[at] = (byte) (x >> 8 * i);
                at++;
            }
        }

        private void put8(long x) {
            put4((int) x);
            put4((int) (x >> 32));
        }

        private void patch(int p, int x) {
            if (p < 0 || p + 4 > limit || p + 4 > b.length) {
                over = true;
                return;
            }
            b[p] = (byte) x;
            b[p + 1] = (byte) (x >> 8);
            b[p + 2] = (byte) (x >> 16);
            b[p + 3] = (byte) (x >> 24);
        }

        private void copy(byte[] source, int from, int to) {
            if (from < 0 || to < from || to > source.length || at + to - from > limit) {
                over = true;
                return;
            }
            System.arraycopy(source, from, b, at, to - from);
            at += to - from;
        }

        private void head(int kind, String name) {
            put(kind);
            for (int i = 0; i < name.length(); i++) {
                put(name.charAt(i));
            }
            put(0);
        }

        private void headOf(int kind, byte[] source, int from, int to) {
            put(kind);
            copy(source, from, to);
            put(0);
        }

        /** The head of an item of a row. */
        private void item(int kind, int number) {
            put(kind);
            for (int power = 100000; power > 0; power /= 10) {
                if (power == 1 || number >= power) {
                    put('0' + number / power % 10);
                }
            }
            put(0);
        }

        /** The value of an element, without its head. */
        private void value(byte[] source, int p) {
            copy(source, Room.valueAt(source, p), Room.next(source, p));
        }

        /** Begins a document or row, whose size comes when it is closed. */
        private int open() {
            int start = at;
            put4(0);
            return start;
        }

        private void close(int start) {
            put(0);
            patch(start, at - start);
        }

        private void named(String name, int whole) {
            head(WHOLE32, name);
            put4(whole);
        }

        private void namedTruth(String name, boolean truth) {
            head(TRUTH, name);
            put(truth ? 1 : 0);
        }
    }

    /** Reads a request, and tells its first fault as a document. */
    private static final class Reader {
        private final byte[] b;
        private int fault;
        private int place;

        private Reader(byte[] bytes) {
            b = bytes;
        }

        private boolean reads(int n) {
            return document(REQUEST_BYTES, REQUEST_BYTES + n, DOCUMENT, 1) >= 0;
        }

        private int fails(int told, int position) {
            fault = told;
            place = position - REQUEST_BYTES;
            return -1;
        }

        /** Reads a document or row ahead of a limit: where it ends, or -1 at a fault. */
        private int document(int at, int limit, int kind, int depth) {
            int left = limit - at;
            if (left < 4) {
                return fails(1, at);
            }
            long length = Room.whole4(b, at) & 0xFFFFFFFFL;
            if (length < 5 || depth == 1 && length < left) {
                return fails(2, at);
            }
            if (length > left) {
                return fails(1, at);
            }
            if (depth > DEEP_MOST) {
                return fails(8, at);
            }
            int last = at + (int) length - 1;
            int p = at + 4;
            for (int i = 0; i < TAPE_MOST && p < last; i++) {
                p = element(at + 4, p, last, kind == ROW ? i : -1, depth);
                if (p < 0) {
                    return -1;
                }
            }
            return b[last] == 0 ? last + 1 : fails(2, last);
        }

        /** Reads an element behind those from first on; item is its number in a row, -1 in a document. */
        private int element(int first, int p, int last, int item, int depth) {
            int kind = b[p];
            if (kind == 0) {
                return fails(2, p);
            }
            if (kind != WHOLE32 && kind != WHOLE64 && kind != TRUTH && kind != NOTHING
                && kind != TEXT && kind != DOCUMENT && kind != ROW) {
                return fails(3, p);
            }
            int name = p + 1;
            int end = Room.valueAt(b, p) - 1;
            if (end >= last || b[end] != 0) {
                return fails(1, name);
            }
            int bad = Room.badCharacter(b, name, end);
            if (bad >= 0) {
                return fails(4, bad);
            }
            if (item >= 0 ? !Room.isDecimal(b, name, end, item) : stoodAhead(first, p, end)) {
                return fails(7, name);
            }
            return value(kind, end + 1, last, depth);
        }

        private boolean stoodAhead(int first, int p, int end) {
            int q = first;
            for (int i = 0; i < TAPE_MOST && q < p; i++) {
                if (Room.compareRuns(b, q + 1, Room.valueAt(b, q) - 1, b, p + 1, end) == 0) {
                    return true;
                }
                q = Room.next(b, q);
            }
            return false;
        }

        private int value(int kind, int v, int last, int depth) {
            int left = last - v;
            switch (kind) {
                case WHOLE32: return left < 4 ? fails(1, v) : v + 4;
                case WHOLE64: return left < 8 ? fails(1, v) : v + 8;
                case NOTHING: return v;
                case TRUTH:
                    if (left < 1) {
                        return fails(1, v);
                    }
                    return b[v] == 0 || b[v] == 1 ? v + 1 : fails(5, v);
                case TEXT: return text(v, left);
                default: return document(v, last, kind, depth + 1);
            }
        }

        private int text(int v, int left) {
            if (left < 4) {
                return fails(1, v);
            }
            long n = Room.whole4(b, v) & 0xFFFFFFFFL;
            if (n < 1) {
                return fails(6, v);
            }
            if (n > left - 4) {
                return fails(1, v);
            }
            int end = v + 3 + (int) n;
            if (b[end] != 0) {
                return fails(6, end);
            }
            int bad = Room.badCharacter(b, v + 4, end);
            return bad >= 0 ? fails(4, bad) : end + 1;
        }
    }

    /** A path: names with a point between two of them. */
    private static final class Path {
        private byte[] b;
        private final int[] from;
        private final int[] to;
        private int steps;
        private boolean dollar;

        private Path() {
            from = new int[STEPS_MOST];
            to = new int[STEPS_MOST];
        }

        /** Takes the path that stands there; false when there is none. */
        private boolean set(byte[] source, int begin, int end) {
            b = source;
            steps = 0;
            dollar = false;
            if (begin < 0 || begin >= end || end > source.length) {
                return false;
            }
            int start = begin;
            for (int i = begin; i <= end; i++) {
                if (i < end && source[i] != '.') {
                    if (source[i] == 0) {
                        return false;
                    }
                    continue;
                }
                if (i == start || steps >= STEPS_MOST) {
                    return false;
                }
                from[steps] = start;
                to[steps] = i;
                dollar = dollar || source[start] == '$';
                steps++;
                start = i + 1;
            }
            return true;
        }

        private boolean setName(byte[] source, int p) {
            return set(source, p + 1, Room.valueAt(source, p) - 1);
        }

        /** Takes the path of a text behind so many bytes; false too when a step of it begins with $. */
        private boolean setPlainText(byte[] source, int p, int skipped) {
            int v = Room.valueAt(source, p);
            return set(source, v + 4 + skipped, v + 3 + Room.whole4(source, v)) && !dollar;
        }

        /** Whether an element's name is this path, byte by byte. */
        private boolean isNameOf(byte[] source, int p) {
            return steps > 0 && Room.compareRuns(b, from[0], to[steps - 1],
                source, p + 1, Room.valueAt(source, p) - 1) == 0;
        }

        /** Piles up the leaves of what is behind so many steps at a value. */
        private void walk(Room room, int p, int step, int depth) {
            if (step >= steps || depth > DEEP_GUARD) {
                room.push(p);
                return;
            }
            byte[] source = room.bytes;
            int kind = Room.kind(source, p);
            boolean inside = kind == DOCUMENT || kind == ROW;
            // the items of a row have their numbers as names, which no other step is
            int element = inside ? Room.find(source, p, b, from[step], to[step]) : MISSING;
            if (element >= 0) {
                walk(room, element, step + 1, depth + 1);
            } else if (kind != ROW) {
                room.push(MISSING);
            }
            int item = kind == ROW ? Room.first(source, p) : MISSING;
            for (int i = 0; i < ELEMENTS_GUARD && Room.kind(source, item) != 0; i++) {
                if (Room.kind(source, item) == DOCUMENT) {
                    walk(room, item, step, depth + 1);
                }
                item = Room.next(source, item);
            }
        }
    }

    /** Filters: their faults, and for which documents they hold. */
    private static final class Filter {
        private static final int EQ = 1;
        private static final int NE = 2;
        private static final int IN = 3;
        private static final int NIN = 4;
        private static final int LT = 5;
        private static final int LTE = 6;
        private static final int GT = 7;
        private static final int GTE = 8;
        private static final int EXISTS = 9;
        private static final int COUNTS = 10;
        private static final int ELEM = 11;
        private static final int NOT = 12;
        private static final int ELEMENTS_MOST = 100;

        private final Room room;
        private final byte[] b;
        private final Path path;
        private int elements;
        private int fault;
        private int place;

        private Filter(Room all) {
            room = all;
            b = all.bytes;
            path = new Path();
        }

        private static int conditionOf(byte[] b, int c) {
            return !Room.beginsWithDollar(b, c) ? 0
                : Room.named(b, c, "$eq") ? EQ : Room.named(b, c, "$ne") ? NE
                : Room.named(b, c, "$in") ? IN : Room.named(b, c, "$nin") ? NIN
                : Room.named(b, c, "$lt") ? LT : Room.named(b, c, "$lte") ? LTE
                : Room.named(b, c, "$gt") ? GT : Room.named(b, c, "$gte") ? GTE
                : Room.named(b, c, "$exists") ? EXISTS : Room.named(b, c, "$size") ? COUNTS
                : Room.named(b, c, "$elem") ? ELEM : Room.named(b, c, "$not") ? NOT : 0;
        }

        private static boolean isLogic(byte[] b, int e) {
            return Room.named(b, e, "$and") || Room.named(b, e, "$or") || Room.named(b, e, "$nor");
        }

        /** Whether a value is a document whose first name begins with $. */
        private static boolean isConditions(byte[] b, int e) {
            if (Room.kind(b, e) != DOCUMENT) {
                return false;
            }
            int first = Room.first(b, e);
            return Room.kind(b, first) != 0 && Room.beginsWithDollar(b, first);
        }

        private static boolean isConditionsOfItem(byte[] b, int e) {
            return isConditions(b, e) && !isLogic(b, Room.first(b, e));
        }

        // -- faults --

        private boolean isRight(int filter) {
            elements = 0;
            fault = 0;
            return filterIsRight(filter, 0);
        }

        private boolean fails(int told, int position) {
            fault = told;
            place = position;
            return false;
        }

        private boolean counts(int more, int e) {
            elements += more;
            return elements <= ELEMENTS_MOST || fails(5, e);
        }

        private boolean filterIsRight(int filter, int depth) {
            int e = Room.first(b, filter);
            for (int i = 0; i < TAPE_MOST && Room.kind(b, e) != 0; i++) {
                if (depth > DEEP_GUARD || !elementIsRight(e, depth + 1)) {
                    return false;
                }
                e = Room.next(b, e);
            }
            return true;
        }

        private boolean elementIsRight(int e, int depth) {
            if (Room.beginsWithDollar(b, e)) {
                return logicIsRight(e, depth);
            }
            if (!path.setName(b, e) || path.dollar) {
                return fails(3, e);
            }
            if (isConditions(b, e)) {
                return counts(1, e) && conditionsAreRight(e, depth);
            }
            return counts(2, e);
        }

        private boolean logicIsRight(int e, int depth) {
            if (!isLogic(b, e)) {
                return fails(1, e);
            }
            int item = Room.first(b, e);
            if (Room.kind(b, e) != ROW || Room.kind(b, item) == 0) {
                return fails(2, e);
            }
            if (!counts(1, e)) {
                return false;
            }
            for (int i = 0; i < TAPE_MOST && Room.kind(b, item) != 0; i++) {
                if (Room.kind(b, item) != DOCUMENT) {
                    return fails(2, item);
                }
                if (!filterIsRight(item, depth + 1)) {
                    return false;
                }
                item = Room.next(b, item);
            }
            return true;
        }

        private boolean conditionsAreRight(int e, int depth) {
            int c = Room.first(b, e);
            for (int i = 0; i < TAPE_MOST && Room.kind(b, c) != 0; i++) {
                if (depth > DEEP_GUARD || !conditionIsRight(c, depth + 1)) {
                    return false;
                }
                c = Room.next(b, c);
            }
            return true;
        }

        private boolean conditionIsRight(int c, int depth) {
            int condition = conditionOf(b, c);
            if (condition == 0) {
                return fails(1, c);
            }
            if (!valueIsRight(condition, c)) {
                return fails(4, c);
            }
            if (!counts(1, c)) {
                return false;
            }
            if (condition == NOT || condition == ELEM && isConditionsOfItem(b, c)) {
                return conditionsAreRight(c, depth);
            }
            return condition != ELEM || filterIsRight(c, depth);
        }

        private boolean valueIsRight(int condition, int c) {
            int kind = Room.kind(b, c);
            switch (condition) {
                case IN: case NIN: return kind == ROW;
                case EXISTS: return kind == TRUTH;
                case COUNTS: return Room.isNumber(b, c) && Room.whole(b, c) >= 0;
                case ELEM: return kind == DOCUMENT;
                case NOT: return isConditions(b, c);
                default: return true;
            }
        }

        // -- holding --

        private boolean holds(int filter, int document, int depth) {
            int e = Room.first(b, filter);
            for (int i = 0; i < TAPE_MOST && Room.kind(b, e) != 0; i++) {
                if (depth > DEEP_GUARD || !elementHolds(e, document, depth + 1)) {
                    return false;
                }
                e = Room.next(b, e);
            }
            return true;
        }

        private boolean elementHolds(int e, int document, int depth) {
            if (Room.beginsWithDollar(b, e)) {
                return logicHolds(e, document, depth);
            }
            int mark = room.top;
            path.setName(b, e);
            path.walk(room, document, 0, 0);
            if (room.top == mark) {
                room.push(MISSING);
            }
            boolean holds = isConditions(b, e) ? conditionsHold(e, mark, room.top, depth)
                : someIs(e, mark, room.top);
            room.top = mark;
            return holds;
        }

        private boolean logicHolds(int e, int document, int depth) {
            boolean all = Room.named(b, e, "$and");
            boolean some = Room.named(b, e, "$or");
            int item = Room.first(b, e);
            for (int i = 0; i < TAPE_MOST && Room.kind(b, item) != 0; i++) {
                boolean holds = holds(item, document, depth + 1);
                if (holds != all) {
                    return some;
                }
                item = Room.next(b, item);
            }
            return !some;
        }

        private boolean conditionsHold(int e, int from, int to, int depth) {
            int c = Room.first(b, e);
            for (int i = 0; i < TAPE_MOST && Room.kind(b, c) != 0; i++) {
                if (depth > DEEP_GUARD || !conditionHolds(c, from, to, depth + 1)) {
                    return false;
                }
                c = Room.next(b, c);
            }
            return true;
        }

        /** Whether a condition holds by the leaves that are piled up from there to there. */
        private boolean conditionHolds(int c, int from, int to, int depth) {
            int condition = conditionOf(b, c);
            switch (condition) {
                case EQ: return someIs(c, from, to);
                case NE: return !someIs(c, from, to);
                case IN: return someIsIn(c, from, to);
                case NIN: return !someIsIn(c, from, to);
                case EXISTS: return someExists(from, to) == Room.isTruth(b, c, 1);
                case COUNTS: return someCounts(Room.whole(b, c), from, to);
                case ELEM: return someHasItem(c, from, to, depth);
                case NOT: return !conditionsHold(c, from, to, depth);
                default: return someIsSo(condition, c, from, to);
            }
        }

        private boolean someIs(int v, int from, int to) {
            boolean nothing = Room.kind(b, v) == NOTHING;
            for (int i = from; i < to; i++) {
                int leaf = room.leaf(i);
                if (leaf < 0 ? nothing : Room.compare(b, leaf, b, v, 0) == 0) {
                    return true;
                }
                if (Room.kind(b, leaf) != ROW) {
                    continue;
                }
                int item = Room.first(b, leaf);
                for (int k = 0; k < ELEMENTS_GUARD && Room.kind(b, item) != 0; k++) {
                    if (Room.compare(b, item, b, v, 0) == 0) {
                        return true;
                    }
                    item = Room.next(b, item);
                }
            }
            return false;
        }

        private boolean someIsIn(int row, int from, int to) {
            int v = Room.first(b, row);
            for (int i = 0; i < TAPE_MOST && Room.kind(b, v) != 0; i++) {
                if (someIs(v, from, to)) {
                    return true;
                }
                v = Room.next(b, v);
            }
            return false;
        }

        private boolean someIsSo(int condition, int v, int from, int to) {
            if (Room.kind(b, v) == NOTHING) {
                return (condition == LTE || condition == GTE) && someIs(v, from, to);
            }
            for (int i = from; i < to; i++) {
                int leaf = room.leaf(i);
                if (isSo(condition, leaf, v)) {
                    return true;
                }
                if (Room.kind(b, leaf) != ROW) {
                    continue;
                }
                int item = Room.first(b, leaf);
                for (int k = 0; k < ELEMENTS_GUARD && Room.kind(b, item) != 0; k++) {
                    if (isSo(condition, item, v)) {
                        return true;
                    }
                    item = Room.next(b, item);
                }
            }
            return false;
        }

        private boolean isSo(int condition, int p, int v) {
            if (Room.classOf(b, p) != Room.classOf(b, v)) {
                return false;
            }
            int order = Room.compare(b, p, b, v, 0);
            switch (condition) {
                case LT: return order < 0;
                case LTE: return order <= 0;
                case GT: return order > 0;
                default: return order >= 0;
            }
        }

        private boolean someExists(int from, int to) {
            for (int i = from; i < to; i++) {
                if (room.leaf(i) >= 0) {
                    return true;
                }
            }
            return false;
        }

        private boolean someCounts(long n, int from, int to) {
            for (int i = from; i < to; i++) {
                int leaf = room.leaf(i);
                if (Room.kind(b, leaf) == ROW && Room.items(b, leaf) == n) {
                    return true;
                }
            }
            return false;
        }

        private boolean someHasItem(int c, int from, int to, int depth) {
            boolean conditions = isConditionsOfItem(b, c);
            for (int i = from; i < to; i++) {
                int leaf = room.leaf(i);
                if (Room.kind(b, leaf) != ROW) {
                    continue;
                }
                int item = Room.first(b, leaf);
                for (int k = 0; k < ELEMENTS_GUARD && Room.kind(b, item) != 0; k++) {
                    if (conditions ? conditionsHoldForItem(c, item, depth)
                        : Room.kind(b, item) == DOCUMENT && holds(c, item, depth)) {
                        return true;
                    }
                    item = Room.next(b, item);
                }
            }
            return false;
        }

        private boolean conditionsHoldForItem(int c, int item, int depth) {
            int mark = room.top;
            room.push(item);
            boolean holds = conditionsHold(c, mark, mark + 1, depth);
            room.top = mark;
            return holds;
        }
    }

    /** Changes: their faults, and doing them to a document, which is copied to a place for work ahead. */
    private static final class Change {
        private static final int SET = 1;
        private static final int UNSET = 2;
        private static final int INC = 3;
        private static final int PUSH = 4;
        private static final int PULL = 5;
        private static final int ADD_TO_SET = 6;

        private final byte[] b;
        private final Path path;
        /** The documents and rows around the place where a path has come to. */
        private final int[] chain;
        private final Out work;
        private int links;
        private int end;
        private boolean changed;
        private int fault;
        private int place;

        private Change(byte[] bytes) {
            b = bytes;
            path = new Path();
            chain = new int[STEPS_MOST + 2];
            work = new Out(bytes, WORK, WORK);
        }

        private static int operatorOf(byte[] b, int o) {
            return Room.named(b, o, "$set") ? SET : Room.named(b, o, "$unset") ? UNSET
                : Room.named(b, o, "$inc") ? INC : Room.named(b, o, "$push") ? PUSH
                : Room.named(b, o, "$pull") ? PULL : Room.named(b, o, "$addToSet") ? ADD_TO_SET : 0;
        }

        private boolean fails(int told, int position) {
            fault = told;
            place = position;
            return false;
        }

        // -- faults --

        private boolean isRight(int change) {
            int o = Room.first(b, change);
            for (int i = 0; i < TAPE_MOST && Room.kind(b, o) != 0; i++) {
                int operator = operatorOf(b, o);
                if (operator == 0) {
                    return fails(1, o);
                }
                if (Room.kind(b, o) != DOCUMENT) {
                    return fails(2, o);
                }
                int p = Room.first(b, o);
                for (int k = 0; k < TAPE_MOST && Room.kind(b, p) != 0; k++) {
                    if (!path.setName(b, p)) {
                        return fails(3, p);
                    }
                    if (operator == INC && !Room.isNumber(b, p)) {
                        return fails(4, p);
                    }
                    if (clashes(change, p)) {
                        return fails(5, p);
                    }
                    p = Room.next(b, p);
                }
                o = Room.next(b, o);
            }
            return true;
        }

        /** Whether a path begins with, or begins, one of those ahead of it in the change. */
        private boolean clashes(int change, int p) {
            int o = Room.first(b, change);
            for (int i = 0; i < TAPE_MOST && Room.kind(b, o) != 0 && o < p; i++) {
                int q = Room.first(b, o);
                for (int k = 0; k < TAPE_MOST && Room.kind(b, q) != 0 && q < p; k++) {
                    if (oneBeginsOther(q, p)) {
                        return true;
                    }
                    q = Room.next(b, q);
                }
                o = Room.next(b, o);
            }
            return false;
        }

        private boolean oneBeginsOther(int p, int q) {
            int one = Room.valueAt(b, p) - 1 - (p + 1);
            int other = Room.valueAt(b, q) - 1 - (q + 1);
            int shorter = Math.min(one, other);
            if (Room.compareRuns(b, p + 1, p + 1 + shorter, b, q + 1, q + 1 + shorter) != 0) {
                return false;
            }
            return one == other || Room.kind(b, (one > other ? p : q) + 1 + shorter) == '.';
        }

        // -- doing --

        /** Does a change to a copy of the document at the place for work; false at a fault. */
        private boolean does(int document, int change) {
            int length = Room.next(b, document) - document;
            if (document < 0 || length < 0 || length > WORK_ROOM || document + length > b.length) {
                return fails(9, change);
            }
            System.arraycopy(b, document, b, WORK, length);
            end = WORK + length;
            changed = false;
            int o = Room.first(b, change);
            for (int i = 0; i < TAPE_MOST && Room.kind(b, o) != 0; i++) {
                int operator = operatorOf(b, o);
                int p = Room.first(b, o);
                for (int k = 0; k < TAPE_MOST && Room.kind(b, p) != 0; k++) {
                    path.setName(b, p);
                    int wrong = operator == UNSET || operator == PULL ? takes(operator, p) : makes(operator, p);
                    if (wrong != 0) {
                        return fails(wrong, p);
                    }
                    p = Room.next(b, p);
                }
                o = Room.next(b, o);
            }
            if (Room.whole4(b, WORK + HEAD) > DOCUMENT_MOST || Room.deepest(b, WORK, 1) > DEEP_MOST) {
                return fails(9, change);
            }
            return true;
        }

        /** Puts other bytes in place of some, so many, and tells the documents around; the new ones are free. */
        private boolean splice(int at, int old, int fresh) {
            int more = fresh - old;
            if (at < WORK || old < 0 || fresh < 0 || at + old > end || end + more > WORK + WORK_ROOM) {
                return false;
            }
            System.arraycopy(b, at + old, b, at + fresh, end - at - old);
            end += more;
            work.start(at, at + fresh);
            for (int i = 0; i < links && i < chain.length; i++) {
                int v = Room.valueAt(b, chain[i]);
                work.patch(v, Room.whole4(b, v) + more);
            }
            changed = true;
            return true;
        }

        private void link(int container) {
            if (links < chain.length) {
                chain[links] = container;
                links++;
            }
        }

        /** Goes a path and makes what is missing on it: the fault, or 0. */
        private int makes(int operator, int p) {
            int at = WORK;
            links = 0;
            for (int s = 0; s < path.steps; s++) {
                int kind = Room.kind(b, at);
                if (kind != DOCUMENT && kind != ROW) {
                    return 6;
                }
                link(at);
                int next = Room.find(b, at, path.b, path.from[s], path.to[s]);
                if (next < 0 && kind == ROW
                    && !Room.isDecimal(path.b, path.from[s], path.to[s], Room.items(b, at))) {
                    return 6;
                }
                if (s == path.steps - 1) {
                    return next < 0 ? comesFree(operator, p, s) : comesTo(operator, p, next);
                }
                at = next < 0 ? makeDocument(s) : next;
            }
            return 0;
        }

        /** Where an element can come behind the others of the innermost document or row. */
        private int behindOthers() {
            int v = Room.valueAt(b, links > 0 ? chain[links - 1] : WORK);
            return v + Room.whole4(b, v) - 1;
        }

        private int makeDocument(int s) {
            int at = behindOthers();
            if (splice(at, 0, path.to[s] - path.from[s] + 7)) {
                work.headOf(DOCUMENT, path.b, path.from[s], path.to[s]);
                work.put4(5);
                work.put(0);
            }
            return at;
        }

        private int comesFree(int operator, int p, int s) {
            int kind = Room.kind(b, p);
            int name = path.to[s] - path.from[s];
            int length = Room.next(b, p) - Room.valueAt(b, p);
            boolean inRow = operator == PUSH || operator == ADD_TO_SET;
            if (!splice(behindOthers(), 0, name + 2 + length + (inRow ? 8 : 0))) {
                return 9;
            }
            work.headOf(inRow ? ROW : kind, path.b, path.from[s], path.to[s]);
            if (inRow) {
                int row = work.open();
                work.item(kind, 0);
                work.value(b, p);
                work.close(row);
            } else {
                work.value(b, p);
            }
            return 0;
        }

        private int comesTo(int operator, int p, int at) {
            if (operator == SET) {
                return replace(p, at);
            }
            if (operator == INC) {
                return Room.isNumber(b, at) ? add(p, at) : 7;
            }
            if (Room.kind(b, at) != ROW) {
                return 7;
            }
            int items = 0;
            int item = Room.first(b, at);
            for (int i = 0; i < ELEMENTS_GUARD && Room.kind(b, item) != 0; i++) {
                if (operator == ADD_TO_SET && Room.compare(b, item, b, p, 0) == 0) {
                    return 0;
                }
                items++;
                item = Room.next(b, item);
            }
            link(at);
            int length = Room.next(b, p) - Room.valueAt(b, p);
            if (!splice(item, 0, digits(items) + 2 + length)) {
                return 9;
            }
            work.item(Room.kind(b, p), items);
            work.value(b, p);
            return 0;
        }

        private static int digits(int n) {
            return n < 10 ? 1 : n < 100 ? 2 : n < 1000 ? 3 : n < 10000 ? 4 : 5;
        }

        private int replace(int p, int at) {
            int v = Room.valueAt(b, p);
            int behind = Room.next(b, p);
            int w = Room.valueAt(b, at);
            int old = Room.next(b, at);
            if (b[p] == b[at] && Room.compareRuns(b, v, behind, b, w, old) == 0) {
                return 0;
            }
            if (!splice(w, old - w, behind - v)) {
                return 9;
            }
            work.value(b, p);
            b[at] = b[p];
            return 0;
        }

        private int add(int p, int at) {
            long one = Room.whole(b, at);
            long other = Room.whole(b, p);
            long sum = one + other;
            if (((one ^ sum) & (other ^ sum)) < 0) {
                return 8;
            }
            boolean small = b[at] == WHOLE32 && b[p] == WHOLE32 && sum == (int) sum;
            int kind = small ? WHOLE32 : WHOLE64;
            if (kind == b[at] && other == 0) {
                return 0;
            }
            if (!splice(Room.valueAt(b, at), b[at] == WHOLE32 ? 4 : 8, small ? 4 : 8)) {
                return 9;
            }
            b[at] = (byte) kind;
            if (small) {
                work.put4((int) sum);
            } else {
                work.put8(sum);
            }
            return 0;
        }

        /** Goes a path as far as it meets something, and takes out what is to go there: the fault, or 0. */
        private int takes(int operator, int p) {
            int at = WORK;
            links = 0;
            for (int s = 0; s < path.steps; s++) {
                int kind = Room.kind(b, at);
                if (kind != DOCUMENT && kind != ROW) {
                    return 0;
                }
                link(at);
                at = Room.find(b, at, path.b, path.from[s], path.to[s]);
                if (at < 0) {
                    return 0;
                }
            }
            if (operator == UNSET) {
                unset(at);
                return 0;
            }
            return Room.kind(b, at) == ROW ? pull(p, at) : 7;
        }

        private void unset(int at) {
            int container = links > 0 ? chain[links - 1] : WORK;
            if (Room.kind(b, container) == DOCUMENT) {
                splice(at, Room.next(b, at) - at, 0);
            } else if (b[at] != NOTHING) {
                int v = Room.valueAt(b, at);
                splice(v, Room.next(b, at) - v, 0);
                b[at] = NOTHING;
            }
        }

        private int pull(int p, int row) {
            link(row);
            int stayed = 0;
            int item = Room.first(b, row);
            for (int i = 0; i < ELEMENTS_GUARD && Room.kind(b, item) != 0; i++) {
                if (Room.compare(b, item, b, p, 0) == 0) {
                    splice(item, Room.next(b, item) - item, 0);
                    continue;
                }
                int name = item + 1;
                int behind = Room.valueAt(b, item) - 1;
                if (!Room.isDecimal(b, name, behind, stayed)
                    && splice(item, behind + 1 - item, digits(stayed) + 2)) {
                    work.item(Room.kind(b, item), stayed);
                }
                stayed++;
                item = Room.next(b, item);
            }
            return 0;
        }
    }

    /** The stages of a pipeline, which make belt 0 anew from what is on it and on belt 1. */
    private static final class Stages {
        private static final int PROJECT = 1;
        private static final int UNWIND = 2;
        private static final int GROUP = 3;
        private static final int SORT = 4;
        private static final int SKIP = 5;
        private static final int LIMIT = 6;
        private static final int LOOKUP = 7;

        private static final int COUNT_OF = 1;
        private static final int SUM = 2;
        private static final int MIN = 3;
        private static final int MAX = 4;
        private static final int FIRST = 5;
        private static final int LAST = 6;
        private static final int PUSH = 7;
        private static final int ADD_TO_SET = 8;
        private static final int SORTS_MOST = 4;

        private final Room room;
        private final byte[] b;
        private final Path path;
        private final Path therePath;
        private final Out out;
        private final Out scratch;
        private final int[] belt;
        private final int[] fresh;
        private final int[] keys;
        private final int[] groups;
        private final int[] values;
        private final int[][] sortKeys;
        private final int[] ways;
        private Shelf other;
        private int count;
        private int freshCount;
        private int freshBytes;
        private int region;
        private boolean tooMuch;
        private boolean sumTooBig;

        private Stages(Room all) {
            room = all;
            b = all.bytes;
            path = new Path();
            therePath = new Path();
            out = new Out(b, BELTS, BELTS);
            scratch = new Out(b, WORK, WORK);
            belt = new int[DOCUMENTS_MOST];
            fresh = new int[DOCUMENTS_MOST];
            keys = new int[DOCUMENTS_MOST];
            groups = new int[DOCUMENTS_MOST];
            values = new int[DOCUMENTS_MOST];
            sortKeys = new int[SORTS_MOST][DOCUMENTS_MOST];
            ways = new int[SORTS_MOST];
        }

        /** Puts the documents of one shelf on belt 0, those of the other on belt 1. */
        private void begin(Shelf shelf, Shelf secondShelf) {
            count = Math.min(shelf.count, belt.length);
            System.arraycopy(shelf.at, 0, belt, 0, count);
            other = secondShelf;
            region = 0;
        }

        private boolean isMatch(int item) {
            int e = Room.first(b, item);
            return Room.kind(b, e) == DOCUMENT && Room.named(b, e, "$match")
                && Room.kind(b, Room.next(b, e)) == 0;
        }

        private void match(Filter filter, int asked) {
            int kept = 0;
            for (int i = 0; i < count; i++) {
                if (filter.holds(asked, belt[i], 0)) {
                    belt[kept] = belt[i];
                    kept++;
                }
            }
            count = kept;
        }

        private static int stageOf(byte[] b, int e) {
            return Room.named(b, e, "$project") ? PROJECT : Room.named(b, e, "$unwind") ? UNWIND
                : Room.named(b, e, "$group") ? GROUP : Room.named(b, e, "$sort") ? SORT
                : Room.named(b, e, "$skip") ? SKIP : Room.named(b, e, "$limit") ? LIMIT
                : Room.named(b, e, "$lookup") ? LOOKUP : 0;
        }

        /** Does a stage: its fault, or 0. */
        private int does(int item) {
            int e = Room.first(b, item);
            if (Room.kind(b, e) == 0 || Room.kind(b, Room.next(b, e)) != 0) {
                return 1;
            }
            switch (stageOf(b, e)) {
                case PROJECT: return project(e);
                case UNWIND: return unwind(e);
                case GROUP: return group(e);
                case SORT: return sort(e);
                case SKIP: return skip(e);
                case LIMIT: return limit(e);
                case LOOKUP: return lookup(e);
                default: return 1;
            }
        }

        // -- new documents --

        private void beginFresh() {
            region = 1 - region;
            int from = BELTS + region * SHELF_ROOM;
            out.start(from, from + SHELF_ROOM);
            scratch.start(WORK, WORK + WORK_ROOM);
            freshCount = 0;
            freshBytes = 0;
            tooMuch = false;
            sumTooBig = false;
        }

        private int openDocument() {
            out.put(DOCUMENT);
            out.put(0);
            return out.open();
        }

        private void closeDocument(int start) {
            out.close(start);
            finishDocument(start);
        }

        private void finishDocument(int start) {
            int length = out.at - start;
            freshBytes += length;
            if (out.over || length > DOCUMENT_MOST || freshBytes > BYTES_MOST || freshCount >= fresh.length
                || Room.deepest(b, start - HEAD, 1) > DEEP_MOST) {
                tooMuch = true;
                return;
            }
            fresh[freshCount] = start - HEAD;
            freshCount++;
        }

        /** Takes the new documents as belt 0, unless they are too much: the fault, or 0. */
        private int endFresh() {
            if (tooMuch) {
                return 5;
            }
            System.arraycopy(fresh, 0, belt, 0, freshCount);
            count = freshCount;
            return 0;
        }

        // -- names and expressions --

        private boolean isPlain(int from, int to) {
            if (from < 0 || from >= to || to > b.length || b[from] == '$') {
                return false;
            }
            for (int i = from; i < to; i++) {
                if (b[i] == '.' || b[i] == 0) {
                    return false;
                }
            }
            return true;
        }

        private boolean hasPlainName(int e) {
            return isPlain(e + 1, Room.valueAt(b, e) - 1);
        }

        private boolean isDollarText(int e) {
            int v = Room.valueAt(b, e);
            return Room.kind(b, e) == TEXT && Room.whole4(b, v) > 1 && Room.kind(b, v + 4) == '$';
        }

        private boolean isWrongExpression(int e) {
            return isDollarText(e) && !path.setPlainText(b, e, 1);
        }

        /** The value of an expression at a document: where it stands, or MISSING. */
        private int valueOf(int e, int document) {
            if (!isDollarText(e)) {
                return e;
            }
            path.setPlainText(b, e, 1);
            int p = document;
            for (int s = 0; s < path.steps && p >= 0; s++) {
                if (Room.kind(b, p) == ROW) {
                    int row = scratch.at;
                    scratch.put(ROW);
                    scratch.put(0);
                    writeRow(p, s, 0);
                    return row;
                }
                p = Room.kind(b, p) == DOCUMENT ? Room.find(b, p, path.b, path.from[s], path.to[s]) : MISSING;
            }
            return p;
        }

        /** Writes the row of the values, by this step and those behind it, of a row's documents. */
        private void writeRow(int row, int step, int depth) {
            int start = scratch.open();
            int written = 0;
            int item = Room.first(b, row);
            for (int i = 0; i < ELEMENTS_GUARD && Room.kind(b, item) != 0; i++) {
                int p = Room.kind(b, item) == DOCUMENT ? item : MISSING;
                int s = step;
                for (; s < path.steps && Room.kind(b, p) == DOCUMENT; s++) {
                    p = Room.find(b, p, path.b, path.from[s], path.to[s]);
                }
                if (p >= 0 && s == path.steps) {
                    scratch.item(Room.kind(b, p), written);
                    scratch.value(b, p);
                    written++;
                } else if (Room.kind(b, p) == ROW && depth < DEEP_GUARD) {
                    scratch.item(ROW, written);
                    writeRow(p, s, depth + 1);
                    written++;
                }
                item = Room.next(b, item);
            }
            scratch.close(start);
        }

        // -- $project --

        private int wrongInProject(int e) {
            int x = Room.first(b, e);
            if (Room.kind(b, e) != DOCUMENT || Room.kind(b, x) == 0) {
                return 2;
            }
            for (int i = 0; i < TAPE_MOST && Room.kind(b, x) != 0; i++) {
                if (!hasPlainName(x)) {
                    return 2;
                }
                if (isWrongExpression(x)) {
                    return 3;
                }
                x = Room.next(b, x);
            }
            return 0;
        }

        private int project(int e) {
            int wrong = wrongInProject(e);
            if (wrong != 0) {
                return wrong;
            }
            beginFresh();
            for (int i = 0; i < count; i++) {
                scratch.start(WORK, WORK + WORK_ROOM);
                int start = openDocument();
                int x = Room.first(b, e);
                for (int k = 0; k < TAPE_MOST && Room.kind(b, x) != 0; k++) {
                    int name = Room.valueAt(b, x) - 1;
                    int v = Room.isTruth(b, x, 1) ? Room.find(b, belt[i], b, x + 1, name) : valueOf(x, belt[i]);
                    if (v >= 0) {
                        out.headOf(Room.kind(b, v), b, x + 1, name);
                        out.value(b, v);
                    }
                    x = Room.next(b, x);
                }
                closeDocument(start);
            }
            return endFresh();
        }

        // -- $unwind --

        private int unwind(int e) {
            if (!isDollarText(e)) {
                return 2;
            }
            if (!path.setPlainText(b, e, 1)) {
                return 3;
            }
            beginFresh();
            for (int i = 0; i < count; i++) {
                int p = belt[i];
                for (int s = 0; s < path.steps && p >= 0; s++) {
                    p = Room.kind(b, p) == DOCUMENT ? Room.find(b, p, path.b, path.from[s], path.to[s]) : MISSING;
                }
                int kind = Room.kind(b, p);
                if (p < 0 || kind == NOTHING) {
                    continue;
                }
                if (kind != ROW) {
                    int start = out.at;
                    out.copy(b, belt[i], Room.next(b, belt[i]));
                    finishDocument(start + HEAD);
                    continue;
                }
                int item = Room.first(b, p);
                for (int k = 0; k < ELEMENTS_GUARD && Room.kind(b, item) != 0; k++) {
                    unwindItem(belt[i], p, item);
                    item = Room.next(b, item);
                }
            }
            return endFresh();
        }

        /** Writes a document with an item in place of the row that has it. */
        private void unwindItem(int document, int row, int item) {
            int start = out.at;
            int more = Room.next(b, item) - Room.valueAt(b, item) - (Room.next(b, row) - Room.valueAt(b, row));
            out.copy(b, document, row);
            out.headOf(Room.kind(b, item), b, row + 1, Room.valueAt(b, row) - 1);
            out.value(b, item);
            out.copy(b, Room.next(b, row), Room.next(b, document));
            if (out.over) {
                tooMuch = true;
                return;
            }
            int p = document;
            for (int s = 0; s < path.steps && p >= 0; s++) {
                int v = Room.valueAt(b, p);
                out.patch(start + v - document, Room.whole4(b, v) + more);
                p = Room.find(b, p, path.b, path.from[s], path.to[s]);
            }
            finishDocument(start + HEAD);
        }

        // -- $group --

        private static int accumulatorOf(byte[] b, int a) {
            return Room.named(b, a, "$count") ? COUNT_OF : Room.named(b, a, "$sum") ? SUM
                : Room.named(b, a, "$min") ? MIN : Room.named(b, a, "$max") ? MAX
                : Room.named(b, a, "$first") ? FIRST : Room.named(b, a, "$last") ? LAST
                : Room.named(b, a, "$push") ? PUSH : Room.named(b, a, "$addToSet") ? ADD_TO_SET : 0;
        }

        private int wrongInGroup(int e) {
            int x = Room.first(b, e);
            if (Room.kind(b, e) != DOCUMENT || Room.kind(b, x) == 0 || !Room.named(b, x, "by")) {
                return 2;
            }
            if (isWrongExpression(x)) {
                return 3;
            }
            x = Room.next(b, x);
            for (int i = 0; i < TAPE_MOST && Room.kind(b, x) != 0; i++) {
                int a = Room.first(b, x);
                if (!hasPlainName(x) || Room.kind(b, x) != DOCUMENT || Room.kind(b, a) == 0
                    || Room.kind(b, Room.next(b, a)) != 0) {
                    return 2;
                }
                int accumulator = accumulatorOf(b, a);
                if (accumulator == 0 || accumulator == COUNT_OF && Room.kind(b, a) != NOTHING) {
                    return 2;
                }
                if (isWrongExpression(a)) {
                    return 3;
                }
                x = Room.next(b, x);
            }
            return 0;
        }

        private int group(int e) {
            int wrong = wrongInGroup(e);
            if (wrong != 0) {
                return wrong;
            }
            beginFresh();
            int by = Room.first(b, e);
            for (int i = 0; i < count; i++) {
                int key = valueOf(by, belt[i]);
                keys[i] = key < 0 ? NOTHING_AT : key;
                groups[i] = i;
                for (int k = 0; k < i; k++) {
                    if (groups[k] == k && Room.compare(b, keys[k], b, keys[i], 0) == 0) {
                        groups[i] = k;
                        break;
                    }
                }
            }
            int mark = scratch.at;
            for (int i = 0; i < count; i++) {
                if (groups[i] != i) {
                    continue;
                }
                int start = openDocument();
                out.head(Room.kind(b, keys[i]), "by");
                out.value(b, keys[i]);
                int x = Room.next(b, by);
                for (int k = 0; k < TAPE_MOST && Room.kind(b, x) != 0; k++) {
                    scratch.at = mark;
                    int n = 0;
                    for (int m = i; m < count; m++) {
                        if (groups[m] == i) {
                            values[n] = valueOf(Room.first(b, x), belt[m]);
                            n++;
                        }
                    }
                    writeGathered(x, n);
                    x = Room.next(b, x);
                }
                closeDocument(start);
            }
            return sumTooBig ? 4 : endFresh();
        }

        /** Writes an element of a group: what its value says of so many values of the group's documents. */
        private void writeGathered(int x, int n) {
            int accumulator = accumulatorOf(b, Room.first(b, x));
            int from = x + 1;
            int to = Room.valueAt(b, x) - 1;
            if (accumulator == COUNT_OF || accumulator == SUM) {
                out.headOf(WHOLE64, b, from, to);
                out.put8(accumulator == SUM ? sum(n) : n);
            } else if (accumulator == PUSH || accumulator == ADD_TO_SET) {
                out.headOf(ROW, b, from, to);
                writeValues(n, accumulator == ADD_TO_SET);
            } else {
                int one = accumulator == FIRST ? values[0] : accumulator == LAST ? values[Math.max(n - 1, 0)]
                    : extreme(n, accumulator == MIN ? -1 : 1);
                int value = one < 0 ? NOTHING_AT : one;
                out.headOf(Room.kind(b, value), b, from, to);
                out.value(b, value);
            }
        }

        private long sum(int n) {
            long low = 0;
            long high = 0;
            for (int i = 0; i < n; i++) {
                if (!Room.isNumber(b, values[i])) {
                    continue;
                }
                long x = Room.whole(b, values[i]);
                long sum = low + x;
                high += (x >> 63) + (sum + Long.MIN_VALUE < low + Long.MIN_VALUE ? 1 : 0);
                low = sum;
            }
            if (high != low >> 63) {
                sumTooBig = true;
            }
            return low;
        }

        /** The least (-1) or greatest (1) of the values that are not MISSING, the first of the SAME. */
        private int extreme(int n, int way) {
            int best = MISSING;
            for (int i = 0; i < n; i++) {
                if (values[i] >= 0 && (best < 0 || Room.compare(b, values[i], b, best, 0) * way > 0)) {
                    best = values[i];
                }
            }
            return best;
        }

        private void writeValues(int n, boolean different) {
            int row = out.open();
            int written = 0;
            for (int i = 0; i < n; i++) {
                boolean stays = values[i] >= 0;
                for (int k = 0; k < i && different && stays; k++) {
                    stays = values[k] < 0 || Room.compare(b, values[k], b, values[i], 0) != 0;
                }
                if (stays) {
                    out.item(Room.kind(b, values[i]), written);
                    out.value(b, values[i]);
                    written++;
                }
            }
            out.close(row);
        }

        // -- $sort, $skip, $limit --

        private int wrongInSort(int e) {
            if (Room.kind(b, e) != DOCUMENT || Room.items(b, e) < 1 || Room.items(b, e) > SORTS_MOST) {
                return 2;
            }
            int x = Room.first(b, e);
            for (int i = 0; i < SORTS_MOST && Room.kind(b, x) != 0; i++) {
                long way = Room.isNumber(b, x) ? Room.whole(b, x) : 0;
                if (way != 1 && way != -1) {
                    return 2;
                }
                if (!path.setName(b, x) || path.dollar) {
                    return 3;
                }
                ways[i] = (int) way;
                x = Room.next(b, x);
            }
            return 0;
        }

        private int sort(int e) {
            int wrong = wrongInSort(e);
            if (wrong != 0) {
                return wrong;
            }
            int sorts = 0;
            int x = Room.first(b, e);
            for (int s = 0; s < SORTS_MOST && Room.kind(b, x) != 0; s++) {
                path.setName(b, x);
                for (int i = 0; i < count; i++) {
                    sortKeys[s][i] = sortKey(belt[i], ways[s]);
                }
                sorts++;
                x = Room.next(b, x);
            }
            for (int i = 0; i < count; i++) {
                int k = i;
                for (; k > 0 && compareSorted(values[k - 1], i, sorts) > 0; k--) {
                    values[k] = values[k - 1];
                }
                values[k] = i;
            }
            for (int i = 0; i < count; i++) {
                fresh[i] = belt[values[i]];
            }
            System.arraycopy(fresh, 0, belt, 0, count);
            return 0;
        }

        private int sortKey(int document, int way) {
            int mark = room.top;
            path.walk(room, document, 0, 0);
            room.addItems(mark, MISSING);
            int best = room.leaf(mark);
            for (int i = mark + 1; i < room.top; i++) {
                if (Room.compare(b, room.leaf(i), b, best, 0) * way < 0) {
                    best = room.leaf(i);
                }
            }
            room.top = mark;
            return best;
        }

        private int compareSorted(int i, int k, int sorts) {
            int order = 0;
            for (int s = 0; s < sorts && order == 0; s++) {
                order = Room.compare(b, sortKeys[s][i], b, sortKeys[s][k], 0) * ways[s];
            }
            return order;
        }

        private int skip(int e) {
            long n = Room.isNumber(b, e) ? Room.whole(b, e) : -1;
            if (n < 0) {
                return 2;
            }
            int gone = (int) Math.min(n, count);
            System.arraycopy(belt, gone, belt, 0, count - gone);
            count -= gone;
            return 0;
        }

        private int limit(int e) {
            long n = Room.isNumber(b, e) ? Room.whole(b, e) : -1;
            if (n < 0) {
                return 2;
            }
            count = (int) Math.min(n, count);
            return 0;
        }

        // -- $lookup --

        private int wrongInLookup(int e, int here, int there, int as) {
            if (Room.kind(b, e) != DOCUMENT || Room.items(b, e) != 3
                || Room.kind(b, here) != TEXT || !Room.named(b, here, "here")
                || Room.kind(b, there) != TEXT || !Room.named(b, there, "there")
                || Room.kind(b, as) != TEXT || !Room.named(b, as, "as")) {
                return 2;
            }
            int v = Room.valueAt(b, as);
            if (!isPlain(v + 4, v + 3 + Room.whole4(b, v))) {
                return 2;
            }
            return path.setPlainText(b, here, 0) && therePath.setPlainText(b, there, 0) ? 0 : 3;
        }

        private int lookup(int e) {
            int here = Room.first(b, e);
            int there = Room.next(b, here);
            int as = Room.next(b, there);
            int wrong = wrongInLookup(e, here, there, as);
            if (wrong != 0) {
                return wrong;
            }
            int from = Room.valueAt(b, as) + 4;
            int to = from - 1 + Room.whole4(b, from - 4);
            beginFresh();
            for (int i = 0; i < count; i++) {
                int document = belt[i];
                int start = openDocument();
                int own = Room.find(b, document, b, from, to);
                int last = Room.next(b, document) - 1;
                out.copy(b, Room.first(b, document), own < 0 ? last : own);
                out.headOf(ROW, b, from, to);
                writeFound(document);
                out.copy(b, own < 0 ? last : Room.next(b, own), last);
                closeDocument(start);
            }
            return endFresh();
        }

        /** Writes the row of the documents of belt 1 that have a value in common with this one. */
        private void writeFound(int document) {
            int mark = room.top;
            path.walk(room, document, 0, 0);
            room.addItems(mark, NOTHING_AT);
            int end = room.top;
            int row = out.open();
            int found = 0;
            for (int i = 0; i < other.count && i < other.at.length; i++) {
                therePath.walk(room, other.at[i], 0, 0);
                room.addItems(end, NOTHING_AT);
                if (someSame(mark, end)) {
                    out.item(DOCUMENT, found);
                    out.value(b, other.at[i]);
                    found++;
                }
                room.top = end;
            }
            out.close(row);
            room.top = mark;
        }

        /** Whether one of the values from there to there on the pile is the SAME as one behind them. */
        private boolean someSame(int from, int to) {
            for (int i = from; i < to; i++) {
                for (int k = to; k < room.top; k++) {
                    if (Room.compare(b, room.leaf(i), b, room.leaf(k), 0) == 0) {
                        return true;
                    }
                }
            }
            return false;
        }
    }

    /** The documents of a shelf, in the order of their numbers, and its indexes. */
    private static final class Shelf {
        private final byte[] b;
        private final int base;
        private final int[] at;
        private final int[] numbers;
        private final Index[] indexes;
        private final Out renewing;
        private int count;
        private int total;
        private int given;
        private int end;

        private Shelf(Room room, int from) {
            b = room.bytes;
            base = from;
            end = from;
            at = new int[DOCUMENTS_MOST];
            numbers = new int[DOCUMENTS_MOST];
            renewing = new Out(b, BELTS, BELTS);
            indexes = new Index[INDEXES_MOST];
            for (int i = 0; i < INDEXES_MOST; i++) {
                indexes[i] = new Index(room);
            }
        }

        /** Puts a document behind the others, which has to find room: where it stands among them. */
        private int add(int document) {
            int v = Room.valueAt(b, document);
            int length = Room.whole4(b, v);
            int k = Math.min(count, DOCUMENTS_MOST - 1);
            at[k] = end;
            b[end] = DOCUMENT;
            b[end + 1] = 0;
            System.arraycopy(b, v, b, end + HEAD, length);
            end += HEAD + length;
            total += length;
            given++;
            numbers[k] = given;
            count = k + 1;
            return k;
        }

        private void remove(boolean[] marked) {
            int kept = 0;
            end = base;
            total = 0;
            for (int k = 0; k < count && k < marked.length; k++) {
                if (marked[k]) {
                    continue;
                }
                int length = Room.next(b, at[k]) - at[k];
                System.arraycopy(b, at[k], b, end, length);
                at[kept] = end;
                numbers[kept] = numbers[k];
                end += length;
                total += length - HEAD;
                kept++;
            }
            count = kept;
        }

        /** Takes the documents that stand elsewhere in place of all its own. */
        private void renew(int[] places) {
            end = base;
            total = 0;
            for (int k = 0; k < count && k < places.length; k++) {
                int length = Room.next(b, places[k]) - places[k];
                System.arraycopy(b, places[k], b, end, length);
                at[k] = end;
                end += length;
                total += length - HEAD;
            }
        }

        private int indexCount() {
            int n = 0;
            for (int i = 0; i < INDEXES_MOST; i++) {
                n += indexes[i].stands ? 1 : 0;
            }
            return n;
        }

        /** The least number that no index has; -1 when all have one. */
        private int freeIndex() {
            for (int i = 0; i < INDEXES_MOST; i++) {
                if (!indexes[i].stands) {
                    return i;
                }
            }
            return -1;
        }
    }

    /** An index: its paths, the keys of documents there, and the tree of its entries. */
    private static final class Index {
        /** Values of one document are fewer than this, since each has three bytes or more. */
        private static final int KEYS_GUARD = 700;

        private final Room room;
        private final byte[] b;
        private final Path first;
        private final Path second;
        private final Tree tree;
        private final int[] firstKeys;
        private final int[] secondKeys;
        private int firstCount;
        private int secondCount;
        private boolean stands;
        private boolean hasSecond;
        private boolean firstMany;
        private boolean secondMany;
        private boolean tooLong;

        private Index(Room all) {
            room = all;
            b = all.bytes;
            first = new Path();
            second = new Path();
            tree = new Tree();
            firstKeys = new int[KEYS_GUARD];
            secondKeys = new int[KEYS_GUARD];
        }

        /** Takes the paths and ways of a request to make an index, and stands, without entries. */
        private void prepare(int paths, int downs) {
            int text = Room.first(b, paths);
            int down = Room.first(b, downs);
            takePath(first, text);
            tree.clear(Room.isTruth(b, down, 1) ? -1 : 1, 1);
            text = Room.next(b, text);
            hasSecond = Room.kind(b, text) == TEXT;
            if (hasSecond) {
                takePath(second, text);
                tree.secondWay = Room.isTruth(b, Room.next(b, down), 1) ? -1 : 1;
            }
            firstMany = false;
            secondMany = false;
            stands = true;
        }

        private void takePath(Path path, int text) {
            int v = Room.valueAt(b, text);
            int length = Room.whole4(b, v) - 1;
            byte[] kept = new byte[Math.max(0, Math.min(length, TAPE_MOST))];
            System.arraycopy(b, v + 4, kept, 0, kept.length);
            path.set(kept, 0, kept.length);
        }

        /** Whether the entries of all these documents together fit; always when there is no such index. */
        private boolean fitsAll(int[] documents, int n) {
            int entries = 0;
            for (int k = 0; k < n && k < documents.length && stands && entries <= ENTRIES_MOST; k++) {
                entries += entriesOf(documents[k]);
            }
            return entries <= ENTRIES_MOST;
        }

        private boolean fitsAnother(int document) {
            return !stands || tree.entries + entriesOf(document) <= ENTRIES_MOST;
        }

        /** Finds the keys of a document: how many entries it has; more than fit when a key is too long. */
        private int entriesOf(int document) {
            tooLong = false;
            firstCount = keysOf(first, document, firstKeys, tree.firstWay);
            secondCount = 1;
            secondKeys[0] = NOTHING_AT;
            if (hasSecond) {
                secondCount = keysOf(second, document, secondKeys, tree.secondWay);
            }
            return tooLong ? ENTRIES_MOST + 1 : firstCount * secondCount;
        }

        /** Finds the different keys of a document at a path, in the order of the index: how many. */
        private int keysOf(Path path, int document, int[] keys, int way) {
            int mark = room.top;
            int n = 0;
            path.walk(room, document, 0, 0);
            if (room.top == mark) {
                n = addKey(keys, n, NOTHING_AT, way);
            }
            for (int i = mark; i < room.top; i++) {
                int leaf = room.leaf(i);
                int item = Room.kind(b, leaf) == ROW ? Room.first(b, leaf) : leaf;
                if (leaf < 0 || Room.kind(b, item) == 0) {
                    n = addKey(keys, n, NOTHING_AT, way);
                } else if (item == leaf) {
                    n = addKey(keys, n, leaf, way);
                }
                for (int k = 0; k < ELEMENTS_GUARD && item != leaf && Room.kind(b, item) != 0; k++) {
                    n = addKey(keys, n, item, way);
                    item = Room.next(b, item);
                }
            }
            room.top = mark;
            return n;
        }

        /** Puts a key in its place among others, unless it is the SAME as one of them: how many there are. */
        private int addKey(int[] keys, int n, int key, int way) {
            tooLong = tooLong || Room.next(b, key) - Room.valueAt(b, key) > KEY_MOST || n >= keys.length;
            int k = Math.min(n, keys.length - 1);
            for (; k > 0; k--) {
                int order = Room.compare(b, keys[k - 1], b, key, 0) * way;
                if (order == 0) {
                    return n;
                }
                if (order < 0) {
                    break;
                }
            }
            if (n >= keys.length) {
                return n;
            }
            System.arraycopy(keys, k, keys, k + 1, n - k);
            keys[k] = key;
            return n + 1;
        }

        /** Puts the entries of the marked documents of a shelf into the tree. */
        private void takesIn(Shelf shelf, boolean[] marked) {
            for (int n = 0; n < shelf.count && n < marked.length && stands; n++) {
                if (!marked[n]) {
                    continue;
                }
                entriesOf(shelf.at[n]);
                firstMany = firstMany || firstCount > 1;
                secondMany = secondMany || secondCount > 1;
                for (int i = 0; i < firstCount; i++) {
                    for (int k = 0; k < secondCount; k++) {
                        tree.comes(b, firstKeys[i], secondKeys[k], shelf.numbers[n]);
                    }
                }
            }
        }

        /** Takes the entries of the marked documents of a shelf out of the tree. */
        private void takesOut(Shelf shelf, boolean[] marked) {
            for (int n = 0; n < shelf.count && n < marked.length && stands; n++) {
                if (!marked[n]) {
                    continue;
                }
                entriesOf(shelf.at[n]);
                for (int i = 0; i < firstCount; i++) {
                    for (int k = 0; k < secondCount; k++) {
                        tree.goes(b, firstKeys[i], secondKeys[k], shelf.numbers[n]);
                    }
                }
            }
        }
    }

    /**
     * The tree of an index. Entries and marks stand in slots of their own, with the bytes of their two keys,
     * since a mark stays when its entry, and the document, are gone.
     */
    private static final class Tree {
        private static final int CAP = 8;
        private static final int LEAST = 4;
        /** A node has room for one more than it may keep. */
        private static final int WIDE = CAP + 1;
        private static final int KEY_ROOM = HEAD + KEY_MOST;
        private static final int SLOT_ROOM = 2 * KEY_ROOM;
        private static final int LEVELS_MOST = 16;

        private byte[] keys;
        private int[] numbers;
        private int[] freeSlots;
        private int freeSlotCount;
        private int[] kids;
        private int[] marks;
        private int[] counts;
        private boolean[] isLeaf;
        private int[] freeNodes;
        private int freeNodeCount;
        private final int[] wayNodes;
        private final int[] wayTurns;
        private int firstWay;
        private int secondWay;
        private int root;
        private int entries;
        private int leaves;
        private int nodes;
        private int sought;

        private Tree() {
            keys = new byte[0];
            numbers = new int[0];
            freeSlots = new int[0];
            kids = new int[0];
            marks = new int[0];
            counts = new int[0];
            isLeaf = new boolean[0];
            freeNodes = new int[0];
            wayNodes = new int[LEVELS_MOST];
            wayTurns = new int[LEVELS_MOST];
        }

        private void clear(int wayOfFirst, int wayOfSecond) {
            firstWay = wayOfFirst;
            secondWay = wayOfSecond;
            entries = 0;
            leaves = 0;
            nodes = 0;
            freeSlotCount = 0;
            for (int i = numbers.length - 1; i >= 0; i--) {
                freeSlots[freeSlotCount] = i;
                freeSlotCount++;
            }
            freeNodeCount = 0;
            for (int i = counts.length - 1; i >= 0; i--) {
                freeNodes[freeNodeCount] = i;
                freeNodeCount++;
            }
            root = newNode(true);
            sought = newSlot();
        }

        private int newSlot() {
            if (freeSlotCount == 0) {
                int old = numbers.length;
                int more = old < 16 ? 16 : old / 2;
                numbers = Arrays.copyOf(numbers, old + more);
                keys = Arrays.copyOf(keys, (old + more) * SLOT_ROOM);
                freeSlots = Arrays.copyOf(freeSlots, old + more);
                for (int i = old + more - 1; i >= old; i--) {
                    freeSlots[freeSlotCount] = i;
                    freeSlotCount++;
                }
            }
            freeSlotCount--;
            return freeSlots[freeSlotCount];
        }

        private void freeSlot(int slot) {
            if (freeSlotCount < freeSlots.length) {
                freeSlots[freeSlotCount] = slot;
                freeSlotCount++;
            }
        }

        private int newNode(boolean leaf) {
            if (freeNodeCount == 0) {
                int old = counts.length;
                int more = old < 8 ? 8 : old / 2;
                counts = Arrays.copyOf(counts, old + more);
                kids = Arrays.copyOf(kids, (old + more) * WIDE);
                marks = Arrays.copyOf(marks, (old + more) * WIDE);
                freeNodes = Arrays.copyOf(freeNodes, old + more);
                boolean[] wider = new boolean[old + more];
                for (int i = 0; i < old && i < isLeaf.length; i++) {
                    wider[i] = isLeaf[i];
                }
                isLeaf = wider;
                for (int i = old + more - 1; i >= old; i--) {
                    freeNodes[freeNodeCount] = i;
                    freeNodeCount++;
                }
            }
            freeNodeCount--;
            int node = freeNodes[freeNodeCount];
            counts[node] = 0;
            isLeaf[node] = leaf;
            nodes++;
            leaves += leaf ? 1 : 0;
            return node;
        }

        private void freeNode(int node) {
            nodes--;
            leaves -= isLeaf[node] ? 1 : 0;
            if (freeNodeCount < freeNodes.length) {
                freeNodes[freeNodeCount] = node;
                freeNodeCount++;
            }
        }

        private void fill(int slot, byte[] b, int p, int q, int number) {
            numbers[slot] = number;
            for (int i = 0; i < 2; i++) {
                int key = i == 0 ? p : q;
                int to = slot * SLOT_ROOM + i * KEY_ROOM;
                int v = Room.valueAt(b, key);
                keys[to] = (byte) Room.kind(b, key);
                keys[to + 1] = 0;
                System.arraycopy(b, v, keys, to + HEAD, Math.min(Room.next(b, key) - v, KEY_MOST));
            }
        }

        /** A mark that is like an entry, in a slot of its own. */
        private int markLike(int slot) {
            int mark = newSlot();
            System.arraycopy(keys, slot * SLOT_ROOM, keys, mark * SLOT_ROOM, SLOT_ROOM);
            numbers[mark] = numbers[slot];
            return mark;
        }

        private int compareSlots(int one, int other) {
            int p = one * SLOT_ROOM;
            int q = other * SLOT_ROOM;
            int order = Room.compare(keys, p, keys, q, 0) * firstWay;
            if (order == 0) {
                order = Room.compare(keys, p + KEY_ROOM, keys, q + KEY_ROOM, 0) * secondWay;
            }
            return order == 0 ? Integer.compare(numbers[one], numbers[other]) : order;
        }

        private int levels() {
            int node = root;
            int n = 1;
            for (; n < LEVELS_MOST && !isLeaf[node]; n++) {
                node = kids[node * WIDE];
            }
            return n;
        }

        /** Goes down with the sought entry, and keeps the way: the level of the leaf, the root's being 0. */
        private int descend() {
            int level = 0;
            wayNodes[0] = root;
            for (; level < LEVELS_MOST - 1 && !isLeaf[wayNodes[level]]; level++) {
                int node = wayNodes[level];
                int turn = 0;
                for (; turn < counts[node] - 1; turn++) {
                    if (compareSlots(marks[node * WIDE + turn], sought) > 0) {
                        break;
                    }
                }
                wayTurns[level] = turn;
                wayNodes[level + 1] = kids[node * WIDE + turn];
            }
            return level;
        }

        private void comes(byte[] b, int p, int q, int number) {
            fill(sought, b, p, q, number);
            int level = descend();
            int leaf = wayNodes[level];
            int place = 0;
            for (; place < counts[leaf]; place++) {
                if (compareSlots(kids[leaf * WIDE + place], sought) > 0) {
                    break;
                }
            }
            insertKid(leaf, place, sought);
            sought = newSlot();
            entries++;
            for (int i = level; i >= 0 && counts[wayNodes[i]] > CAP; i--) {
                split(i);
            }
        }

        private void insertKid(int node, int place, int kid) {
            int from = node * WIDE + place;
            if (counts[node] < WIDE) {
                System.arraycopy(kids, from, kids, from + 1, counts[node] - place);
                kids[from] = kid;
                counts[node]++;
            }
        }

        private void removeKid(int node, int place) {
            int from = node * WIDE + place;
            if (place < counts[node]) {
                System.arraycopy(kids, from + 1, kids, from, counts[node] - place - 1);
                counts[node]--;
            }
        }

        /** Splits the node of the way at a level: all behind the first LEAST are a new one. */
        private void split(int level) {
            int node = wayNodes[level];
            int right = newNode(isLeaf[node]);
            int from = node * WIDE;
            int more = counts[node] - LEAST;
            System.arraycopy(kids, from + LEAST, kids, right * WIDE, more);
            counts[right] = more;
            counts[node] = LEAST;
            int mark;
            if (isLeaf[node]) {
                mark = markLike(kids[right * WIDE]);
            } else {
                mark = marks[from + LEAST - 1];
                System.arraycopy(marks, from + LEAST, marks, right * WIDE, more - 1);
            }
            if (level == 0) {
                root = newNode(false);
                insertKid(root, 0, node);
                insertKid(root, 1, right);
                marks[root * WIDE] = mark;
                return;
            }
            int parent = wayNodes[level - 1];
            int turn = wayTurns[level - 1];
            int at = parent * WIDE + turn;
            System.arraycopy(marks, at, marks, at + 1, counts[parent] - 1 - turn);
            marks[at] = mark;
            insertKid(parent, turn + 1, right);
        }

        private void goes(byte[] b, int p, int q, int number) {
            fill(sought, b, p, q, number);
            int level = descend();
            int leaf = wayNodes[level];
            for (int i = 0; i < counts[leaf]; i++) {
                int slot = kids[leaf * WIDE + i];
                if (compareSlots(slot, sought) == 0) {
                    removeKid(leaf, i);
                    freeSlot(slot);
                    entries--;
                    break;
                }
            }
            for (int i = level; i > 0 && counts[wayNodes[i]] < LEAST; i--) {
                mend(i);
            }
            if (!isLeaf[root] && counts[root] == 1) {
                int old = root;
                root = kids[old * WIDE];
                freeNode(old);
            }
        }

        /** Gives the node of the way at a level, which has too few, one of its neighbours', or joins it. */
        private void mend(int level) {
            int parent = wayNodes[level - 1];
            int turn = wayTurns[level - 1];
            int at = parent * WIDE + turn;
            boolean hasLeft = turn > 0;
            boolean hasRight = turn + 1 < counts[parent];
            if (hasLeft && counts[kids[at - 1]] > LEAST) {
                takeLast(kids[at - 1], kids[at], at - 1);
            } else if (hasRight && counts[kids[at + 1]] > LEAST) {
                takeFirst(kids[at], kids[at + 1], at);
            } else if (hasLeft) {
                join(parent, turn - 1);
            } else if (hasRight) {
                join(parent, turn);
            }
        }

        /** Moves the last of the left node to the right one; the mark between them stands there. */
        private void takeLast(int left, int right, int between) {
            int last = counts[left] - 1;
            int kid = kids[left * WIDE + last];
            removeKid(left, last);
            insertKid(right, 0, kid);
            if (isLeaf[right]) {
                freeSlot(marks[between]);
                marks[between] = markLike(kid);
                return;
            }
            System.arraycopy(marks, right * WIDE, marks, right * WIDE + 1, counts[right] - 2);
            marks[right * WIDE] = marks[between];
            marks[between] = marks[left * WIDE + last - 1];
        }

        private void takeFirst(int left, int right, int between) {
            int kid = kids[right * WIDE];
            removeKid(right, 0);
            insertKid(left, counts[left], kid);
            if (isLeaf[left]) {
                freeSlot(marks[between]);
                marks[between] = markLike(kids[right * WIDE]);
                return;
            }
            marks[left * WIDE + counts[left] - 2] = marks[between];
            marks[between] = marks[right * WIDE];
            System.arraycopy(marks, right * WIDE + 1, marks, right * WIDE, counts[right] - 1);
        }

        /** Joins two children that are next to one another: all are in the left one then. */
        private void join(int parent, int turn) {
            int between = parent * WIDE + turn;
            int left = kids[between];
            int right = kids[between + 1];
            int n = counts[left];
            System.arraycopy(kids, right * WIDE, kids, left * WIDE + n, counts[right]);
            if (isLeaf[left]) {
                freeSlot(marks[between]);
            } else {
                marks[left * WIDE + n - 1] = marks[between];
                System.arraycopy(marks, right * WIDE, marks, left * WIDE + n, counts[right] - 1);
            }
            counts[left] = n + counts[right];
            System.arraycopy(marks, between + 1, marks, between, counts[parent] - 2 - turn);
            removeKid(parent, turn + 1);
            freeNode(right);
        }
    }

    /** Bounds: sets of values, as intervals, of what a filter says of an index's paths. */
    private static final class Bounds {
        private static final int FIRST = 0;
        private static final int SECOND = 1;
        private static final int PART = 2;
        private static final int INNER = 3;
        private static final int SPARE = 4;
        private static final int SETS = 5;
        /** An interval is its class, its low value (-1: the class's beginning), its high one, which are IN. */
        private static final int WIDE = 4;
        private static final int LOW_IN = 1;
        private static final int HIGH_IN = 2;
        private static final int INTERVALS_MOST = 700;
        private static final int ROWS = 5;
        /** A value alone, which is as $eq, is no condition by its name. */
        private static final int ALONE = 0;

        private final Room room;
        private final byte[] b;
        private final int[][] sets;
        private final int[] counts;
        private int rank;
        private int ranges;

        private Bounds(Room all) {
            room = all;
            b = all.bytes;
            sets = new int[SETS][INTERVALS_MOST * WIDE];
            counts = new int[SETS];
        }

        /** Tells the rank and the ranges of an index by which of its paths are bound. */
        private void rankBy(boolean first, boolean second) {
            rank = 0;
            ranges = 1;
            if (first) {
                boolean points = isPoints(FIRST);
                rank = !points ? 1 : second ? 3 : 2;
                ranges = rank == 3 ? counts[FIRST] * counts[SECOND] : counts[FIRST];
            }
        }

        /** How many documents of a shelf have an entry in the ranges of the index that was ranked last. */
        private int looksAt(Index index, Shelf shelf) {
            int looked = 0;
            for (int k = 0; k < shelf.count && k < shelf.at.length; k++) {
                index.entriesOf(shelf.at[k]);
                if (someIn(FIRST, index.firstKeys, index.firstCount)
                    && (rank < 3 || someIn(SECOND, index.secondKeys, index.secondCount))) {
                    looked++;
                }
            }
            return looked;
        }

        private boolean someIn(int set, int[] keys, int n) {
            for (int i = 0; i < n; i++) {
                for (int k = 0; k < counts[set]; k++) {
                    if (isIn(sets[set], k * WIDE, keys[i])) {
                        return true;
                    }
                }
            }
            return false;
        }

        private boolean isIn(int[] set, int at, int key) {
            if (Room.classOf(b, key) != set[at]) {
                return false;
            }
            int low = set[at + 1] < 0 ? 1 : Room.compare(b, key, b, set[at + 1], 0);
            int high = set[at + 2] < 0 ? -1 : Room.compare(b, key, b, set[at + 2], 0);
            return (low > 0 || low == 0 && (set[at + 3] & LOW_IN) != 0)
                && (high < 0 || high == 0 && (set[at + 3] & HIGH_IN) != 0);
        }

        private boolean isPoints(int set) {
            for (int k = 0; k < counts[set]; k++) {
                int low = sets[set][k * WIDE + 1];
                int high = sets[set][k * WIDE + 2];
                if (low < 0 || high < 0 || Room.compare(b, low, b, high, 0) != 0) {
                    return false;
                }
            }
            return true;
        }

        /** Finds the bounds of a path; false when it is free. */
        private boolean bind(int filter, Path path, boolean many, int set) {
            int mark = room.top;
            collect(filter, path, 0);
            boolean bound = many && bindSame(mark, set);
            for (int i = mark; i < room.top && !(many && bound); i++) {
                int c = room.leaf(i);
                if (Room.named(b, c, "$elem") ? !bindElem(c, PART) : !bindOne(c, PART)) {
                    continue;
                }
                if (bound) {
                    meet(set, PART);
                } else {
                    copy(PART, set);
                }
                bound = true;
            }
            room.top = mark;
            return bound;
        }

        /** Finds the bounds of the first $eq or $in that has some; false when there is none. */
        private boolean bindSame(int mark, int set) {
            for (int i = mark; i < room.top; i++) {
                int condition = Filter.conditionOf(b, room.leaf(i));
                boolean same = condition == ALONE || condition == Filter.EQ || condition == Filter.IN;
                if (same && bindOne(room.leaf(i), set)) {
                    return true;
                }
            }
            return false;
        }

        /** Piles up the conditions that a filter has for a path; a value alone as its own element. */
        private void collect(int filter, Path path, int depth) {
            int e = Room.first(b, filter);
            for (int i = 0; i < TAPE_MOST && Room.kind(b, e) != 0 && depth < DEEP_GUARD; i++) {
                if (Room.named(b, e, "$and")) {
                    int item = Room.first(b, e);
                    for (int k = 0; k < TAPE_MOST && Room.kind(b, item) != 0; k++) {
                        collect(item, path, depth + 1);
                        item = Room.next(b, item);
                    }
                } else if (path.isNameOf(b, e)) {
                    boolean alone = !Filter.isConditions(b, e);
                    int c = alone ? e : Room.first(b, e);
                    for (int k = 0; k < TAPE_MOST && Room.kind(b, c) != 0; k++) {
                        room.push(c);
                        if (alone) {
                            break;
                        }
                        c = Room.next(b, c);
                    }
                }
                e = Room.next(b, e);
            }
        }

        private boolean bindElem(int elem, int set) {
            if (!Filter.isConditionsOfItem(b, elem)) {
                return false;
            }
            boolean bound = false;
            int c = Room.first(b, elem);
            for (int i = 0; i < TAPE_MOST && Room.kind(b, c) != 0; i++) {
                if (bindOne(c, INNER)) {
                    if (bound) {
                        meet(set, INNER);
                    } else {
                        copy(INNER, set);
                    }
                    bound = true;
                }
                c = Room.next(b, c);
            }
            if (bound) {
                addTo(set, ROWS, MISSING, MISSING, 0);
            }
            return bound;
        }

        /** Finds the bounds of one condition of the six that have some; false when it has none. */
        private boolean bindOne(int c, int set) {
            int condition = Filter.conditionOf(b, c);
            counts[set] = 0;
            if (condition != Filter.IN) {
                return bindSimple(condition, c, set);
            }
            int v = Room.first(b, c);
            for (int i = 0; i < TAPE_MOST && Room.kind(b, v) != 0; i++) {
                if (Room.kind(b, v) == ROW) {
                    return false;
                }
                boolean stood = false;
                for (int k = 0; k < counts[set] && !stood; k++) {
                    stood = Room.compare(b, v, b, sets[set][k * WIDE + 1], 0) == 0;
                }
                if (!stood) {
                    addPoint(set, v);
                }
                v = Room.next(b, v);
            }
            return true;
        }

        private boolean bindSimple(int condition, int c, int set) {
            int kind = Room.kind(b, c);
            boolean equal = condition == ALONE || condition == Filter.EQ;
            boolean less = condition == Filter.LT || condition == Filter.LTE;
            boolean greater = condition == Filter.GT || condition == Filter.GTE;
            boolean same = equal || condition == Filter.LTE || condition == Filter.GTE;
            if (kind == ROW || !less && !greater && !same) {
                return false;
            }
            if (kind == NOTHING || equal) {
                if (same) {
                    addPoint(set, c);
                }
            } else if (less) {
                addTo(set, Room.classOf(b, c), MISSING, c, same ? HIGH_IN : 0);
            } else {
                addTo(set, Room.classOf(b, c), c, MISSING, same ? LOW_IN : 0);
            }
            return true;
        }

        private void addPoint(int set, int v) {
            addTo(set, Room.classOf(b, v), v, v, LOW_IN | HIGH_IN);
        }

        private void addTo(int set, int valueClass, int low, int high, int in) {
            int at = counts[set] * WIDE;
            int[] into = sets[set];
            if (at + WIDE > into.length) {
                return;
            }
            into[at] = valueClass;
            into[at + 1] = low;
            into[at + 2] = high;
            into[at + 3] = in;
            counts[set]++;
        }

        private void copy(int from, int to) {
            System.arraycopy(sets[from], 0, sets[to], 0, counts[from] * WIDE);
            counts[to] = counts[from];
        }

        /** Keeps in a set what is in another one, too. */
        private void meet(int set, int other) {
            counts[SPARE] = 0;
            for (int i = 0; i < counts[set]; i++) {
                for (int k = 0; k < counts[other]; k++) {
                    meetOne(sets[set], i * WIDE, sets[other], k * WIDE);
                }
            }
            copy(SPARE, set);
        }

        private void meetOne(int[] one, int p, int[] other, int q) {
            if (one[p] != other[q]) {
                return;
            }
            int low = MISSING;
            int high = MISSING;
            int in = 0;
            for (int end = LOW_IN; end <= HIGH_IN; end++) {
                int mine = one[p + end];
                int yours = other[q + end];
                int inner = Integer.compare(Math.min(mine, 0), Math.min(yours, 0));
                if (mine >= 0 && yours >= 0) {
                    inner = Room.compare(b, mine, b, yours, 0) * (end == LOW_IN ? 1 : -1);
                }
                boolean takesMine = inner > 0
                    || inner == 0 && ((one[p + 3] & end) == 0 || (other[q + 3] & end) != 0);
                in |= (takesMine ? one[p + 3] : other[q + 3]) & end;
                if (end == LOW_IN) {
                    low = takesMine ? mine : yours;
                } else {
                    high = takesMine ? mine : yours;
                }
            }
            int order = low < 0 || high < 0 ? -1 : Room.compare(b, low, b, high, 0);
            if (order < 0 || order == 0 && in == (LOW_IN | HIGH_IN)) {
                addTo(SPARE, one[p], low, high, in);
            }
        }
    }
}
