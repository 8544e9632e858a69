import java.util.ArrayList;
import java.util.Comparator;
import java.util.List;

/** Promise 3, Part VI, sentence by sentence: keys, bounds, ranks and trees of indexes at their edges. */
public final class Boundary6Indexes {
    private static DocumentHouse house;
    private static int numbers;

    private static void insert(String... documents) {
        for (String document : documents) {
            numbers++;
            Docs.asks(house, "{insert: " + document + ", shelf: 0}", "{number: " + numbers + "}");
        }
    }

    private static void stand(String... documents) {
        house = new DocumentHouse();
        numbers = 0;
        insert(documents);
    }

    private static void index(String paths, String down, int due) {
        Docs.asks(house, "{index: " + paths + ", shelf: 0, down: " + down + "}", "{index: " + due + "}");
    }

    private static void explains(String filter, int index, int rank, int ranges, int looked) {
        Docs.asks(house, "{explain: " + filter + ", shelf: 0}",
            "{index: " + index + ", rank: " + rank + ", ranges: " + ranges + ", looked: " + looked + "}");
    }

    private static void isFree(String filter) {
        explains(filter, -1, 0, 1, house.state(0));
    }

    private static void shape(int index, int entries, int levels, int leaves, int nodes, boolean first, boolean second) {
        Docs.asks(house, "{shape: " + index + ", shelf: 0}", "{entries: " + entries + ", levels: " + levels + ", leaves: "
            + leaves + ", nodes: " + nodes + ", first: " + first + ", second: " + second + "}");
    }

    private static void entries(int entries, boolean first, boolean second) {
        Docs.ask(house, "{shape: 0, shelf: 0}");
        String got = Docs.text(Docs.answer(house));
        Docs.due("entries of " + got, got.startsWith("{entries: " + entries + ", "), true);
        Docs.due("MANY-KEYED of " + got, got.endsWith("first: " + first + ", second: " + second + "}"), true);
    }

    /** "KEYS .. of each leaf its items, if it is a row (NOTHING, if it has none), NOTHING, if it is MISSING, itself otherwise" */
    private static void keys() {
        Object[][] keyed = {{"{}", 1}, {"{a: null}", 1}, {"{a: []}", 1}, {"{a: [null]}", 1}, {"{a: [null, null]}", 1}, {"{a: 1}", 1},
            {"{a: [1]}", 1}, {"{a: [1, 1L, 1]}", 1}, {"{a: [1, 2]}", 2}, {"{a: [1, null]}", 2}, {"{a: [[]]}", 1}, {"{a: [[], []]}", 1},
            {"{a: [[1, 2]]}", 1}, {"{a: [[1], [1L], 1]}", 2}, {"{a: {}}", 1}, {"{a: {b: [1, 2]}}", 1}, {"{a: [{}, {b: 1}]}", 2},
            {"{a: [0, 1, 2, 3, 4, 5, 6, 7, 8, 9, 10]}", 11}, {"{a: [false, true, 0, 1, '', '0', null, [], {}]}", 9}};
        for (Object[] one : keyed) {
            for (String down : new String[] {"[false]", "[true]"}) {
                stand((String) one[0]);
                index("['a']", down, 0);
                entries((Integer) one[1], (Integer) one[1] > 1, false);
            }
            stand();
            index("['z', 'a']", "[true, false]", 0);
            insert((String) one[0]);
            entries((Integer) one[1], false, (Integer) one[1] > 1);
        }
        // several leaves: of each its items; no leaf at all
        Object[][] leaves = {{"{a: [{b: 1}, {b: 2}, 3]}", 2}, {"{a: [{b: 1}, {c: 2}]}", 2}, {"{a: [{b: 1}, {b: [1, 2]}]}", 2},
            {"{a: [1, 2]}", 1}, {"{a: []}", 1}, {"{a: [{b: []}, {}]}", 1}, {"{a: [{b: [[]]}, {}]}", 2}, {"{a: [[{b: 1}]]}", 1}};
        for (Object[] one : leaves) {
            stand((String) one[0]);
            index("['a.b']", "[false]", 0);
            entries((Integer) one[1], (Integer) one[1] > 1, false);
        }
        // each document has one entry for each pair of different keys
        stand("{a: [1, 2, 1L], b: [3, 4, 5, 3]}");
        index("['a', 'b']", "[false, true]", 0);
        entries(6, true, true);
    }

    /** "MANY-KEYED from when on a document .. has several different ones there, while the index is there .., until the index goes" */
    private static void manyKeyed() {
        stand("{a: [1, 2]}");
        Docs.asks(house, "{delete: {}, shelf: 0}", "{many: 1}");
        index("['a']", "[false]", 0);
        shape(0, 0, 1, 1, 1, false, false);
        insert("{a: 1}", "{a: [2]}");
        shape(0, 2, 1, 1, 1, false, false);
        explains("{a: {$gt: 0, $lt: 2}}", 0, 1, 1, 1);
        // a change that can't be done, and an insert that has no room, are no documents that stand there
        Docs.faultAt(house, "{update: {a: 1}, shelf: 0, change: {$set: {a: [1, 2]}, $inc: {a.b: 1}}}", 25, "a.b");
        Docs.asks(house, "{insert: {a: [1, '" + "x".repeat(60) + "']}, shelf: 0}", "{fault: 40, place: -1}");
        shape(0, 2, 1, 1, 1, false, false);
        Docs.asks(house, "{update: {a: 2}, shelf: 0, change: {$push: {a: 2L}}}", "{many: 1, changed: 1}");
        shape(0, 2, 1, 1, 1, false, false);
        Docs.asks(house, "{update: {a: 2}, shelf: 0, change: {$push: {a: 3}}}", "{many: 1, changed: 1}");
        shape(0, 3, 1, 1, 1, true, false);
        explains("{a: {$gt: 1, $lt: 2}}", 0, 1, 1, 1);
        explains("{a: {$lt: 2, $gt: 1}}", 0, 1, 1, 1);
        Docs.asks(house, "{update: {a: 2}, shelf: 0, change: {$set: {a: 2}}}", "{many: 1, changed: 1}");
        Docs.asks(house, "{delete: {a: 2}, shelf: 0}", "{many: 1}");
        shape(0, 1, 1, 1, 1, true, false);
        explains("{a: {$lt: 2, $gt: 1}}", 0, 1, 1, 1);
        Docs.asks(house, "{drop: 0, shelf: 0}", "{dropped: true}");
        index("['a']", "[false]", 0);
        shape(0, 1, 1, 1, 1, false, false);
        explains("{a: {$lt: 2, $gt: 1}}", 0, 1, 1, 0);
        // another index that stands all the while has its own
        insert("{a: [8, 9]}");
        index("['a']", "[false]", 1);
        shape(1, 3, 1, 1, 1, true, false);
        Docs.asks(house, "{delete: {a: 8}, shelf: 0}", "{many: 1}");
        index("['a']", "[false]", 2);
        shape(0, 1, 1, 1, 1, true, false);
        shape(1, 1, 1, 1, 1, true, false);
        shape(2, 1, 1, 1, 1, false, false);
    }

    /** "$eq: v; none when v is a row. $in: its items; none when one of them is a row. .. none when v is a row." */
    private static void boundsOfOne() {
        stand("{a: 1}", "{a: ''}", "{a: false}", "{a: {}}", "{}", "{a: 'x'}", "{a: 2}");
        index("['a']", "[true]", 0);
        for (String name : new String[] {"$eq", "$lt", "$lte", "$gt", "$gte"}) {
            isFree("{a: {" + name + ": []}}");
            isFree("{a: {" + name + ": [1]}}");
        }
        isFree("{a: []}");
        isFree("{a: {$in: [[]]}}");
        isFree("{a: {$in: [1, 2, []]}}");
        explains("{a: {$in: [1, 2, {b: []}]}}", 0, 2, 3, 2);
        explains("{a: {$in: []}}", 0, 2, 0, 0);
        explains("{a: {$in: [null]}}", 0, 2, 1, 1);
        explains("{a: {$in: [1, 1, 1L, 2, 2L, 1]}}", 0, 2, 2, 2);
        // the least and the greatest of a class: between its beginning or end and a value there are values always
        for (String edge : new String[] {"-9223372036854775808L", "9223372036854775807L", "''", "{}", "false", "true"}) {
            for (String name : new String[] {"$lt", "$lte", "$gt", "$gte"}) {
                Docs.ask(house, "{explain: {a: {" + name + ": " + edge + "}}, shelf: 0}");
                Docs.due(name + " " + edge, Docs.text(Docs.answer(house)).startsWith("{index: 0, rank: 1, ranges: 1, "), true);
            }
        }
        explains("{a: {$lt: false}}", 0, 1, 1, 0);
        explains("{a: {$gt: true}}", 0, 1, 1, 0);
        explains("{a: {$lt: ''}}", 0, 1, 1, 0);
        explains("{a: {$gte: ''}}", 0, 1, 1, 2);
        explains("{a: {$lt: null}}", 0, 2, 0, 0);
        explains("{a: {$gt: null}}", 0, 2, 0, 0);
        explains("{a: {$lte: null}}", 0, 2, 1, 1);
        explains("{a: {$gte: null}}", 0, 2, 1, 1);
        for (String c : new String[] {"$ne: 1", "$nin: []", "$exists: true", "$exists: false", "$size: 0", "$not: {$eq: 1}",
            "$elem: {}", "$elem: {b: 1}", "$elem: {$or: [{}]}", "$elem: {$ne: 1}", "$elem: {$size: 1}", "$elem: {$elem: {$eq: 1}}",
            "$elem: {$eq: []}", "$elem: {$in: [1, []]}", "$elem: {$gt: []}"}) {
            isFree("{a: {" + c + "}}");
            explains("{a: {" + c + ", $eq: 1}}", 0, 2, 1, 1);
        }
        explains("{a: {$elem: {$lt: null}}}", 0, 1, 1, 0);
        explains("{a: {$elem: {$gte: null}}}", 0, 1, 2, 1);
        explains("{a: {$elem: {$in: []}}}", 0, 1, 1, 0);
        explains("{a: {$elem: {$gt: 1, $lt: 1}}}", 0, 1, 1, 0);
        explains("{a: {$elem: {$gt: 0, $eq: []}}}", 0, 1, 2, 2);
    }

    /** "out rather than IN at values that are the SAME"; "the low one is greater, or they are the SAME and not both IN" */
    private static void boundsOfTwo() {
        stand("{a: 0}", "{a: 1}", "{a: 2}", "{a: '1'}", "{}");
        index("['a']", "[false]", 0);
        String[] lows = {"$gt", "$gte"};
        String[] highs = {"$lt", "$lte"};
        for (int low = 0; low < 2; low++) {
            for (int high = 0; high < 2; high++) {
                boolean point = low == 1 && high == 1;
                for (String two : new String[] {lows[low] + ": 1, " + highs[high] + ": 1", highs[high] + ": 1L, " + lows[low] + ": 1"}) {
                    explains("{a: {" + two + "}}", 0, 2, point ? 1 : 0, point ? 1 : 0);
                }
                explains("{a: {" + lows[low] + ": 1, " + highs[high] + ": 0}}", 0, 2, 0, 0);
                explains("{a: {" + lows[low] + ": 0, " + highs[high] + ": 1}}", 0, 1, 1, low + high);
                explains("{a: {" + lows[low] + ": 0, " + highs[high] + ": '1'}}", 0, 2, 0, 0);
                explains("{a: {" + lows[low] + ": 1, $eq: 1}}", 0, 2, low, low);
                explains("{a: {$eq: 1, " + highs[high] + ": 1}}", 0, 2, high, high);
                explains("{a: {" + lows[low] + ": 1, $in: [0, 1, 2, null]}}", 0, 2, 1 + low, 1 + low);
                explains("{a: {$in: [0, 1, 2, null], " + highs[high] + ": 1}}", 0, 2, 1 + high, 1 + high);
            }
            explains("{a: {" + lows[low] + ": 1}}", 0, 1, 1, 1 + low);
        }
        explains("{a: {$gt: 1, $gte: 1}}", 0, 1, 1, 1);
        explains("{a: {$gte: 1, $gt: 1}}", 0, 1, 1, 1);
        explains("{a: {$lt: 1, $lte: 1}}", 0, 1, 1, 1);
        explains("{a: {$lte: 1, $lt: 1}}", 0, 1, 1, 1);
        explains("{a: {$gt: 0, $gte: 1}}", 0, 1, 1, 2);
        // with two sets of which one has all rows besides
        explains("{a: {$gte: 1, $elem: {$gt: 1}}}", 0, 1, 1, 1);
        explains("{a: {$gt: 1, $elem: {$gte: 1}}}", 0, 1, 1, 1);
        explains("{a: {$elem: {$gt: 1}, $gte: 1}}", 0, 1, 1, 1);
        explains("{a: {$elem: {$lt: 1}, $lte: 1}}", 0, 1, 1, 1);
        explains("{a: {$elem: {$lte: 1}, $lt: 1}}", 0, 1, 1, 1);
        explains("{$and: [{a: {$elem: {$gt: 0}}}, {a: {$elem: {$lte: 1}}}]}", 0, 1, 2, 1);
        explains("{a: {$in: [1, 2, 3]}, $and: [{a: {$in: [3, 4]}}]}", 0, 2, 1, 0);
        explains("{a: {$in: [1, 2, 3]}, $and: [{a: {$in: [4]}}]}", 0, 2, 0, 0);
        explains("{a: {$in: [1]}, $and: [{a: {$lte: null}}]}", 0, 2, 0, 0);
    }

    /** "those of the filter with just this path as name, and likewise those of the filters in a $and of it, in a $and of these" */
    private static void whatSaysSomething() {
        stand("{a: 1}", "{a: {b: 1}}", "{a: 2}");
        index("['a']", "[false]", 0);
        String says = "{a: 1}";
        for (int i = 0; i < 7; i++) {
            explains(says, 0, 2, 1, 1);
            isFree("{$or: [" + says + "]}");
            isFree("{$nor: [" + says + "]}");
            says = "{$and: [" + says + "]}";
        }
        isFree("{$and: [{$or: [{a: 1}]}]}");
        isFree("{a.b: 1}");
        isFree("{aa: 1}");
        isFree("{b: 1}");
        isFree("{b: {$elem: {a: 1}}}");
        isFree("{}");
        explains("{$and: [{b: 1}, {b: 2, a: 2}], $or: [{a: 1}]}", 0, 2, 1, 1);
        explains("{a: {b: 1}}", 0, 2, 1, 1);
        index("['a.b']", "[false]", 1);
        explains("{a.b: 1}", 1, 2, 1, 1);
        explains("{a.b: 1, a: {$gt: 0}}", 1, 2, 1, 1);
        explains("{a.b: {$gt: 0}, a: {$gt: 0}}", 0, 1, 1, 2);
    }

    /** "of the first $eq or $in (not under $elem) that has bounds, or if there is none of the first one that has bounds" */
    private static void boundsOfMany() {
        stand("{a: [1, 2, 3]}", "{a: 4}", "{a: []}");
        index("['a']", "[false]", 0);
        explains("{a: {$gt: 1, $lt: 3}}", 0, 1, 1, 2);
        explains("{a: {$lt: 3, $gt: 1}}", 0, 1, 1, 1);
        explains("{a: {$gt: 9, $eq: 4}}", 0, 2, 1, 1);
        explains("{a: {$gt: 9, $in: [], $eq: 4}}", 0, 2, 0, 0);
        explains("{a: {$gt: 9, $in: [[]], $eq: 4}}", 0, 2, 1, 1);
        explains("{a: {$gt: 9, $in: [3, 4]}, $and: [{a: 4}]}", 0, 2, 2, 2);
        explains("{$and: [{a: 4}], a: {$in: [3, 4]}}", 0, 2, 1, 1);
        explains("{a: {$elem: {$eq: 1}, $gte: 4}}", 0, 1, 2, 1);
        explains("{a: {$gte: 4, $elem: {$eq: 1}}}", 0, 1, 1, 1);
        explains("{a: {$elem: {$eq: 1}, $in: [4]}}", 0, 2, 1, 1);
        explains("{a: {$elem: {$gt: 0, $lt: 2}}}", 0, 1, 2, 1);
        explains("{a: {$eq: [1], $ne: 0, $gt: 3}}", 0, 1, 1, 1);
        isFree("{a: {$eq: [1], $ne: 0, $gt: []}}");
        explains("{a: null}", 0, 2, 1, 1);
    }

    /** "RANK ..; RANGES: of rank 3 the intervals of its first path times those of the second, else those of the first" */
    private static void ranks() {
        stand("{a: 1, b: 1}", "{a: 1, b: 2}", "{a: 2, b: 2}", "{a: 2}", "{b: 1}");
        index("['a', 'b']", "[false, false]", 0);
        isFree("{b: 1}");
        explains("{a: {$gt: 0}}", 0, 1, 1, 4);
        explains("{a: {$gt: 0}, b: 1}", 0, 1, 1, 4);
        explains("{a: 1}", 0, 2, 1, 2);
        explains("{a: 1, b: {$ne: 1}}", 0, 2, 1, 2);
        explains("{a: 1, b: []}", 0, 2, 1, 2);
        explains("{a: 1, b: 1}", 0, 3, 1, 1);
        explains("{a: 1, b: {$gt: 1}}", 0, 3, 1, 1);
        explains("{a: {$in: [1, 2]}, b: {$in: [1, 2, 3]}}", 0, 3, 6, 3);
        explains("{a: {$in: []}, b: {$in: [1, 2, 3]}}", 0, 3, 0, 0);
        explains("{a: {$in: [1, 2]}, b: {$in: []}}", 0, 3, 0, 0);
        explains("{a: {$in: [1, 2]}, b: {$lt: null}}", 0, 3, 0, 0);
        explains("{a: {$in: [1, 2]}, b: null}", 0, 3, 2, 1);
        explains("{a: null, b: {$elem: {$eq: 1}}}", 0, 3, 2, 1);
        explains("{a: {$gte: 1, $lte: 1L}, b: {$gte: 2}}", 0, 3, 1, 1);
        explains("{a: {$elem: {$eq: 1}}, b: 1}", 0, 1, 2, 2);
        StringBuilder many = new StringBuilder("[0");
        for (int i = 1; i < 60; i++) {
            many.append(", ").append(i);
        }
        explains("{a: {$in: " + many + "]}, b: {$in: " + many + "]}}", 0, 3, 3600, 3);
    }

    /** "the index of the highest rank, if that is above 0; of several the one with fewer RANGES; then the one with the lesser number" */
    private static void choices() {
        stand("{a: 1, b: 1}", "{a: 2, b: 2}");
        isFree("{a: 1}");
        index("['b']", "[false]", 0);
        index("['a']", "[false]", 1);
        index("['a']", "[true]", 2);
        index("['a', 'b']", "[true, true]", 3);
        isFree("{c: 1}");
        explains("{a: 1}", 1, 2, 1, 1);
        explains("{b: 1}", 0, 2, 1, 1);
        explains("{a: 1, b: 1}", 3, 3, 1, 1);
        explains("{a: 1, b: {$in: [1, 2, 3]}}", 3, 3, 3, 1);
        explains("{a: {$gt: 0}, b: 1}", 0, 2, 1, 1);
        explains("{a: {$gt: 0}, b: {$gt: 0}}", 0, 1, 1, 2);
        explains("{a: {$gt: 0}}", 1, 1, 1, 2);
        explains("{a: {$elem: {$gt: 0}}, b: {$gt: 0}}", 0, 1, 1, 2);
        explains("{a: {$gt: 0}, b: {$elem: {$gt: 0}}}", 1, 1, 1, 2);
        Docs.asks(house, "{drop: 3, shelf: 0}", "{dropped: true}");
        explains("{a: 1, b: {$in: [1, 2]}}", 1, 2, 1, 1);
        explains("{a: {$in: [1, 2]}, b: 1}", 0, 2, 1, 1);
        explains("{a: {$in: [1, 2]}, b: {$in: [1, 2]}}", 0, 2, 2, 2);
        explains("{a: {$in: []}, b: 1}", 1, 2, 0, 0);
        Docs.asks(house, "{drop: 1, shelf: 0}", "{dropped: true}");
        explains("{a: 1}", 2, 2, 1, 1);
        // the least number that there isn't yet, and an index of the other shelf is none of this one
        index("['c']", "[false]", 1);
        Docs.asks(house, "{explain: {a: 1}, shelf: 1}", "{index: -1, rank: 0, ranges: 1, looked: 0}");
        Docs.asks(house, "{shape: 1, shelf: 1}", "{fault: 41, place: -1}");
    }

    // ---- a tree of its own, written by the document's words, that shape is held against ----

    private static final class Node {
        private final List<int[]> entries = new ArrayList<>();
        private final List<Node> children = new ArrayList<>();
        private final List<int[]> marks = new ArrayList<>();

        private boolean isLeaf() {
            return children.isEmpty();
        }

        private int size() {
            return isLeaf() ? entries.size() : children.size();
        }
    }

    private static Node root;
    private static Comparator<int[]> order;

    private static void comes(int key, int number) {
        int[] entry = {key, number};
        Node right = comes(root, entry);
        if (right != null) {
            Node top = new Node();
            top.children.add(root);
            top.children.add(right);
            top.marks.add(between);
            root = top;
        }
    }

    private static int[] between;

    private static int down(Node node, int[] entry) {
        int child = 0;
        while (child < node.marks.size() && order.compare(node.marks.get(child), entry) <= 0) {
            child++;
        }
        return child;
    }

    private static Node comes(Node node, int[] entry) {
        if (node.isLeaf()) {
            node.entries.add(entry);
            node.entries.sort(order);
        } else {
            int child = down(node, entry);
            Node right = comes(node.children.get(child), entry);
            if (right != null) {
                node.children.add(child + 1, right);
                node.marks.add(child, between);
            }
        }
        if (node.size() <= 8) {
            return null;
        }
        Node right = new Node();
        if (node.isLeaf()) {
            right.entries.addAll(node.entries.subList(4, 9));
            node.entries.subList(4, 9).clear();
            between = right.entries.get(0);
        } else {
            right.children.addAll(node.children.subList(4, 9));
            node.children.subList(4, 9).clear();
            between = node.marks.get(3);
            right.marks.addAll(node.marks.subList(4, 8));
            node.marks.subList(3, 8).clear();
        }
        return right;
    }

    private static void goes(int key, int number) {
        goes(root, new int[] {key, number});
        if (root.children.size() == 1) {
            root = root.children.get(0);
        }
    }

    private static void goes(Node node, int[] entry) {
        if (node.isLeaf()) {
            node.entries.removeIf(other -> order.compare(other, entry) == 0);
            return;
        }
        int child = down(node, entry);
        goes(node.children.get(child), entry);
        Node low = node.children.get(child);
        if (low.size() >= 4) {
            return;
        }
        Node ahead = child > 0 ? node.children.get(child - 1) : null;
        Node behind = child + 1 < node.children.size() ? node.children.get(child + 1) : null;
        if (ahead != null && ahead.size() > 4) {
            if (low.isLeaf()) {
                low.entries.add(0, ahead.entries.remove(ahead.entries.size() - 1));
                node.marks.set(child - 1, low.entries.get(0));
            } else {
                low.children.add(0, ahead.children.remove(ahead.children.size() - 1));
                low.marks.add(0, node.marks.get(child - 1));
                node.marks.set(child - 1, ahead.marks.remove(ahead.marks.size() - 1));
            }
        } else if (behind != null && behind.size() > 4) {
            if (low.isLeaf()) {
                low.entries.add(behind.entries.remove(0));
                node.marks.set(child, behind.entries.get(0));
            } else {
                low.children.add(behind.children.remove(0));
                low.marks.add(node.marks.get(child));
                node.marks.set(child, behind.marks.remove(0));
            }
        } else {
            int left = ahead != null ? child - 1 : child;
            Node one = node.children.get(left);
            Node other = node.children.remove(left + 1);
            int[] mark = node.marks.remove(left);
            if (!one.isLeaf()) {
                one.marks.add(mark);
            }
            one.entries.addAll(other.entries);
            one.children.addAll(other.children);
            one.marks.addAll(other.marks);
        }
    }

    private static int levels;
    private static int leaves;
    private static int nodes;
    private static int held;

    private static void count(Node node, int level) {
        levels = Math.max(levels, level);
        nodes++;
        leaves += node.isLeaf() ? 1 : 0;
        held += node.entries.size();
        for (Node child : node.children) {
            count(child, level + 1);
        }
    }

    private static void holdsAgainst() {
        levels = 0;
        leaves = 0;
        nodes = 0;
        held = 0;
        count(root, 1);
        shape(0, held, levels, leaves, nodes, false, false);
    }

    private static void empty(boolean down) {
        stand();
        index("['a']", "[" + down + "]", 0);
        root = new Node();
        order = (x, y) -> x[0] != y[0] ? Integer.compare(x[0], y[0]) * (down ? -1 : 1) : Integer.compare(x[1], y[1]);
        holdsAgainst();
    }

    private static void insertKey(int key) {
        insert("{a: " + key + ", n: " + (numbers + 1) + "}");
        comes(key, numbers);
        holdsAgainst();
    }

    private static void deleteOne(int key, int number) {
        Docs.asks(house, "{delete: {n: " + number + "}, shelf: 0}", "{many: 1}");
        goes(key, number);
        holdsAgainst();
    }

    /** "CAP .. 8", "LEAST is half of CAP": the tree grows to four levels and lessens to one leaf again, in several orders. */
    private static void trees() {
        for (int way = 0; way < 6; way++) {
            empty(way % 2 == 1);
            int n = 200;
            int[] keys = new int[n + 1];
            for (int i = 1; i <= n; i++) {
                // ascending, in a mixed order (a step that has no part in common with 200), and many that are the SAME
                keys[i] = way < 2 ? i : way < 4 ? i * 67 % n : i * 31 % 7;
                insertKey(keys[i]);
            }
            for (int i = 1; i <= n; i++) {
                int gone = way % 3 == 0 ? i : way % 3 == 1 ? n + 1 - i : 1 + i * 73 % n;
                deleteOne(keys[gone], gone);
            }
            Docs.due("documents", house.state(0), 0);
            shape(0, 0, 1, 1, 1, false, false);
        }
    }

    /** "an update first takes out all entries of the documents that it changes .., document by document, .. then all new ones come" */
    private static void updatesOfTrees() {
        for (int way = 0; way < 4; way++) {
            empty(way % 2 == 1);
            int n = 120;
            int[] keys = new int[n + 1];
            for (int i = 1; i <= n; i++) {
                keys[i] = way < 2 ? i : i * 77 % n;
                insertKey(keys[i]);
            }
            for (int round = 0; round < 6; round++) {
                int from = round * 23 % n;
                int more = round % 2 == 0 ? 1000 : -1500;
                for (int i = 1; i <= n; i++) {
                    if (i > from && i <= from + 40) {
                        goes(keys[i], i);
                    }
                }
                int changed = 0;
                for (int i = 1; i <= n; i++) {
                    if (i > from && i <= from + 40) {
                        keys[i] += more;
                        comes(keys[i], i);
                        changed++;
                    }
                }
                Docs.asks(house, "{update: {n: {$gt: " + from + ", $lte: " + (from + 40) + "}}, shelf: 0, change: {$inc: {a: "
                    + more + "}}}", "{many: " + changed + ", changed: " + changed + "}");
                holdsAgainst();
                // a change that changes nothing leaves all entries where they are
                Docs.asks(house, "{update: {}, shelf: 0, change: {$inc: {a: 0}, $unset: {zz: 1}}}", "{many: " + n + ", changed: 0}");
                holdsAgainst();
            }
        }
    }

    /** "index: .. the least index that there isn't yet comes. drop: .. that index goes": nothing of one that went is in its place */
    private static void anotherIndex() {
        // it had a second path, and this one has NOTHING there
        stand("{z: 0}", "{b: 5, a: 1, t: 'a text behind both'}");
        index("['a', 'b']", "[false, false]", 0);
        Docs.asks(house, "{drop: 0, shelf: 0}", "{dropped: true}");
        index("['a']", "[false]", 0);
        shape(0, 2, 1, 1, 1, false, false);
        Docs.asks(house, "{delete: {z: 0}, shelf: 0}", "{many: 1}");
        shape(0, 1, 1, 1, 1, false, false);
        Docs.asks(house, "{delete: {}, shelf: 0}", "{many: 1}");
        shape(0, 0, 1, 1, 1, false, false);
        // it had a tree that had grown and lessened, and this one is made by the documents that stand
        for (int way = 0; way < 2; way++) {
            empty(way == 1);
            int n = 90;
            int[] keys = new int[2 * n + 1];
            for (int i = 1; i <= n; i++) {
                keys[i] = i * 37 % n;
                insertKey(keys[i]);
            }
            for (int i = n; i >= 1; i--) {
                if (i % 3 > 0) {
                    deleteOne(keys[i], i);
                }
            }
            Docs.asks(house, "{drop: 0, shelf: 0}", "{dropped: true}");
            index("['a']", "[" + (way == 1) + "]", 0);
            root = new Node();
            for (int i = 3; i <= n; i += 3) {
                comes(keys[i], i);
            }
            holdsAgainst();
            for (int i = n + 1; i <= 2 * n; i++) {
                keys[i] = i * 53 % n;
                insertKey(keys[i]);
            }
            for (int i = 3; i <= 2 * n; i += i < n ? 3 : 1) {
                deleteOne(keys[i], i);
            }
            shape(0, 0, 1, 1, 1, false, false);
        }
    }

    public static void main(String[] args) {
        keys();
        manyKeyed();
        boundsOfOne();
        boundsOfTwo();
        whatSaysSomething();
        boundsOfMany();
        ranks();
        choices();
        trees();
        updatesOfTrees();
        anotherIndex();
        Docs.end();
    }
}
