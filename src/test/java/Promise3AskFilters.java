/** Promise 3, Parts II and III: order, paths, and for which documents filters hold. */
public final class Promise3AskFilters {
    private static DocumentHouse house;

    /** Whether a filter holds for a document. */
    private static void holds(boolean due, String filter, String document) {
        Docs.ask(house, "{delete: {}, shelf: 0}");
        Docs.ask(house, "{insert: " + document + ", shelf: 0}");
        String got = Docs.ask(house, "{count: " + filter + ", shelf: 0}");
        Docs.due(filter + " for " + document, got, due ? "{many: 1}" : "{many: 0}");
    }

    private static void yes(String filter, String document) {
        holds(true, filter, document);
    }

    private static void no(String filter, String document) {
        holds(false, filter, document);
    }

    /** In the order of the values' classes, and in each class from the least: no two are the SAME. */
    private static final String[] IN_ORDER = {
        "null",
        "-9223372036854775808L", "-2147483649L", "-2147483648", "-1", "0", "1L", "255", "256", "2147483647",
        "2147483648L", "4294967296L", "9223372036854775807L",
        "''", "'\0'", "'\0\0'", "'A'", "'a'", "'a\0'", "'aa'", "'b'", "'é'", "'€'",
        "{}", "{z: null}", "{a: 1}", "{a: 1, b: 0}", "{a: 2}", "{ab: 1}", "{b: 0}", "{b: 0, a: 0}", "{a: 'x'}",
        "{'': {}}", "{b: {}}", "{a: []}", "{a: true}",
        "[]", "[null]", "[1]", "[1, null]", "[1, 1, 1, 1, 1, 1, 1, 1, 1, 1, 1]", "[2]", "['']", "[{}]", "[[]]", "[true]",
        "false", "true"
    };

    private static char classOf(String value) {
        char c = value.charAt(0);
        return c == 'f' ? 't' : c == '-' || c >= '0' && c <= '9' ? '0' : c;
    }

    private static void order() {
        for (int i = 0; i < IN_ORDER.length; i++) {
            if (i % 8 == 0) {
                house = new DocumentHouse();
            }
            Docs.ask(house, "{delete: {}, shelf: 0}");
            Docs.ask(house, "{insert: {v: {x: " + IN_ORDER[i] + "}}, shelf: 0}");
            for (int k = 0; k < IN_ORDER.length; k++) {
                boolean row = IN_ORDER[i].startsWith("[");
                boolean alike = classOf(IN_ORDER[i]) == classOf(IN_ORDER[k]);
                if (row && (classOf(IN_ORDER[k]) != '[' || IN_ORDER[i].equals("[[]]"))) {
                    continue;
                }
                boolean nothing = IN_ORDER[k].equals("null");
                compares("$lt", i, k, alike && !nothing && i < k);
                compares("$gte", i, k, alike && i >= k);
                if (k % 3 == 0) {
                    compares("$lte", i, k, alike && i <= k);
                    compares("$gt", i, k, alike && !nothing && i > k);
                    compares("$eq", i, k, i == k);
                    compares("$ne", i, k, i != k);
                }
            }
        }
        house = new DocumentHouse();
        // of all classes, inside of documents and rows, where class comes ahead of name
        for (int i = 0; i + 1 < IN_ORDER.length; i++) {
            yes("{v: {$lt: [" + IN_ORDER[i + 1] + "]}}", "{v: [[" + IN_ORDER[i] + "]]}");
            yes("{v: {$lt: {p: " + IN_ORDER[i + 1] + "}}}", "{v: {p: " + IN_ORDER[i] + "}}");
        }
        house = new DocumentHouse();
        yes("{v: {$lt: {a: 'x'}}}", "{v: {z: 1}}");
        yes("{v: {$lt: {b: 1}}}", "{v: {a: 2}}");
        no("{v: {$lt: {b: 1}}}", "{v: {c: 0}}");
        yes("{v: 5}", "{v: 5L}");
        yes("{v: 5L}", "{v: 5}");
        yes("{v: {a: [1L, {b: 2}]}}", "{v: {a: [1, {b: 2L}]}}");
        no("{v: {a: 1, b: 2}}", "{v: {b: 2, a: 1}}");
        yes("{v: [1, 2L]}", "{v: [1L, 2]}");
        no("{v: 0}", "{v: false}");
        no("{v: 1}", "{v: '1'}");
    }

    private static void compares(String name, int i, int k, boolean due) {
        String filter = "{v.x: {" + name + ": " + IN_ORDER[k] + "}}";
        String got = Docs.ask(house, "{count: " + filter + ", shelf: 0}");
        Docs.due(filter + " for " + IN_ORDER[i], got, due ? "{many: 1}" : "{many: 0}");
    }

    private static void paths() {
        house = new DocumentHouse();
        yes("{}", "{}");
        yes("{a: 1}", "{a: 1}");
        no("{a: 1}", "{a: 2}");
        no("{a: 1}", "{b: 1}");
        yes("{a.b: 1}", "{a: {b: 1}}");
        no("{a.b: 1}", "{a: {c: 1}}");
        no("{a.b: 1}", "{a: 1}");
        no("{a.b: 1}", "{a.b: 1}");
        yes("{a.b.c.d.e.f.g.h: 1}", "{a: {b: {c: {d: {e: {f: {g: {h: 1}}}}}}}}");
        // a row: its documents, and by a number its item
        yes("{a.b: 2}", "{a: [{b: 1}, {b: 2}]}");
        no("{a.b: 3}", "{a: [{b: 1}, {b: 2}]}");
        yes("{a.0: 7}", "{a: [7, 8]}");
        yes("{a.1: 8}", "{a: [7, 8]}");
        no("{a.1: 7}", "{a: [7, 8]}");
        no("{a.2: 7}", "{a: [7, 8]}");
        no("{a.01: 8}", "{a: [7, 8]}");
        no("{a.00: 7}", "{a: [7, 8]}");
        yes("{a.01: 8}", "{a: [7, {'01': 8}]}");
        yes("{a.1: 9}", "{a: [7, 8, {1: 9}]}");
        yes("{a.0.b: 1}", "{a: [{b: 1}, {b: 2}]}");
        no("{a.0.b: 2}", "{a: [{b: 1}, {b: 2}]}");
        yes("{a.0.b: 2}", "{a: [{b: 1}, {'0': {b: 2}}]}");
        yes("{a.9: 5}", "{a: [0, 0, 0, 0, 0, 0, 0, 0, 0, 5]}");
        yes("{a.10: 5}", "{a: [0, 0, 0, 0, 0, 0, 0, 0, 0, 0, 5]}");
        no("{a.99999999999999999999: 5}", "{a: [5]}");
        no("{a.4294967296: 5}", "{a: [5]}");
        yes("{0: 5}", "{0: 5}");
        yes("{a.0: 5}", "{a: {0: 5}}");
        yes("{a.0.0: 5}", "{a: [[5, 6]]}");
        no("{a.b: 1}", "{a: [[{b: 1}]]}");
        yes("{a.0.b: 1}", "{a: [[{b: 1}]]}");
        yes("{a.b: [1, 2]}", "{a: [{b: [1, 2]}]}");
        yes("{a.b: 2}", "{a: [{b: [1, 2]}]}");
        yes("{a.b.c: 3}", "{a: [{b: [{c: 1}, {c: 3}]}, 5]}");
        // MISSING leaves, and no leaf at all
        yes("{a.b: null}", "{a: [{b: 1}, {c: 2}]}");
        no("{a.b: null}", "{a: [{b: 1}, 5]}");
        yes("{a.b: null}", "{a: [5]}");
        yes("{a.b: null}", "{a: []}");
        yes("{a.b: null}", "{a: 5}");
        yes("{a.b: null}", "{}");
        yes("{a.b: {$exists: false}}", "{a: [5, 6]}");
        no("{a: null}", "{a: []}");
        no("{a.0: null}", "{a: [5]}");
        yes("{a.1: null}", "{a: [5]}");
    }

    private static void equals() {
        house = new DocumentHouse();
        yes("{a: {$eq: 2}}", "{a: [1, 2]}");
        yes("{a: 2}", "{a: [1, 2]}");
        no("{a: 3}", "{a: [1, 2]}");
        no("{a: 2}", "{a: [1, [2]]}");
        yes("{a: [2]}", "{a: [1, [2]]}");
        yes("{a: [1, [2]]}", "{a: [1, [2]]}");
        yes("{a: {}}", "{a: {}}");
        no("{a: {}}", "{a: {b: 1}}");
        yes("{a: {b: 1}}", "{a: [{b: 1}]}");
        yes("{a: null}", "{a: null}");
        yes("{a: null}", "{b: null}");
        yes("{a: null}", "{a: [1, null]}");
        no("{a: null}", "{a: false}");
        no("{a: {$ne: 2}}", "{a: [1, 2]}");
        yes("{a: {$ne: 3}}", "{a: [1, 2]}");
        yes("{a: {$ne: 3}}", "{}");
        no("{a: {$ne: null}}", "{}");
        yes("{a: {$ne: null}}", "{a: 0}");
        yes("{a: {$in: [1, 5]}}", "{a: 5L}");
        no("{a: {$in: [1, 5]}}", "{a: 4}");
        no("{a: {$in: []}}", "{a: 4}");
        yes("{a: {$in: [null]}}", "{}");
        no("{a: {$in: [0, 1]}}", "{}");
        yes("{a: {$in: [7, [1]]}}", "{a: [1]}");
        yes("{a: {$in: [7, 1]}}", "{a: [0, 1]}");
        no("{a: {$nin: [1, 5]}}", "{a: 5}");
        yes("{a: {$nin: [1, 5]}}", "{a: 4}");
        yes("{a: {$nin: []}}", "{}");
        no("{a: {$nin: [1, null]}}", "{}");
        yes("{a: {$nin: [1]}}", "{}");
    }

    private static void compares() {
        house = new DocumentHouse();
        yes("{a: {$lt: 2}}", "{a: [1, 5]}");
        yes("{a: {$gt: 2}}", "{a: [1, 5]}");
        no("{a: {$gt: 5}}", "{a: [1, 5]}");
        yes("{a: {$gte: 5}}", "{a: [1, 5]}");
        yes("{a: {$lt: 5, $gt: 1}}", "{a: [1, 5]}");
        no("{a: {$lt: 'b'}}", "{a: 1}");
        no("{a: {$gt: 1}}", "{a: 'b'}");
        no("{a: {$gt: 1}}", "{a: true}");
        no("{a: {$lt: 1}}", "{}");
        no("{a: {$lte: 1}}", "{a: null}");
        yes("{a: {$lte: null}}", "{a: null}");
        yes("{a: {$gte: null}}", "{}");
        no("{a: {$gte: null}}", "{a: 1}");
        no("{a: {$lt: null}}", "{a: null}");
        no("{a: {$gt: null}}", "{}");
        yes("{a: {$gt: [1]}}", "{a: [1, 0]}");
        no("{a: {$gt: [1]}}", "{a: [0, 9]}");
        yes("{a: {$gt: [1]}}", "{a: [0, [2]]}");
        yes("{a: {$lt: true}}", "{a: false}");
        no("{a: {$lt: false}}", "{a: false}");
        yes("{a: {$gte: {b: 1}}}", "{a: {b: 1}}");
        yes("{a: {$gt: {b: 1}}}", "{a: {b: 1, c: 0}}");
    }

    private static void others() {
        house = new DocumentHouse();
        yes("{a: {$exists: true}}", "{a: null}");
        no("{a: {$exists: false}}", "{a: null}");
        no("{a: {$exists: true}}", "{b: 1}");
        yes("{a: {$exists: false}}", "{b: 1}");
        yes("{a.b: {$exists: true}}", "{a: [{c: 1}, {b: 1}]}");
        no("{a.b: {$exists: false}}", "{a: [{c: 1}, {b: 1}]}");
        yes("{a: {$size: 2}}", "{a: [1, 2]}");
        yes("{a: {$size: 2L}}", "{a: [1, 2]}");
        no("{a: {$size: 1}}", "{a: [1, 2]}");
        yes("{a: {$size: 0}}", "{a: []}");
        no("{a: {$size: 0}}", "{a: {}}");
        no("{a: {$size: 0}}", "{}");
        no("{a: {$size: 4294967298L}}", "{a: [1, 2]}");
        no("{a: {$size: 1}}", "{a: [[1], [1]]}");
        yes("{a.b: {$size: 1}}", "{a: [{b: 1}, {b: [5]}]}");
        // $elem: each condition by one item alone, or a filter by an item that is a document
        yes("{a: {$elem: {$gt: 1, $lt: 5}}}", "{a: [0, 3, 9]}");
        no("{a: {$elem: {$gt: 1, $lt: 5}}}", "{a: [0, 9]}");
        yes("{a: {$gt: 1, $lt: 5}}", "{a: [0, 9]}");
        no("{a: {$elem: {$gt: 1}}}", "{a: 3}");
        no("{a: {$elem: {$gt: 1}}}", "{}");
        yes("{a: {$elem: {$gt: 1}}}", "{a: [[0, 2]]}");
        yes("{a: {$elem: {$elem: {$gt: 1}}}}", "{a: [[0, 2]]}");
        no("{a: {$elem: {$elem: {$gt: 1}}}}", "{a: [0, 2]}");
        yes("{a: {$elem: {b: 1, c: 2}}}", "{a: [{b: 1}, {b: 1, c: 2}]}");
        no("{a: {$elem: {b: 1, c: 2}}}", "{a: [{b: 1}, {c: 2}]}");
        yes("{a: {$elem: {}}}", "{a: [1, {}]}");
        no("{a: {$elem: {}}}", "{a: [1, []]}");
        no("{a: {$elem: {b: null}}}", "{a: [1, [{}]]}");
        yes("{a: {$elem: {$or: [{b: 1}, {c: 1}]}}}", "{a: [{}, {c: 1}]}");
        no("{a: {$elem: {$nor: [{b: 1}]}}}", "{a: [{b: 1}, 5]}");
        yes("{a: {$elem: {$ne: 1}}}", "{a: [1, 2]}");
        yes("{a: {$elem: {$exists: true}}}", "{a: [null]}");
        yes("{a: {$elem: {$size: 1}}}", "{a: [[7]]}");
        yes("{a.b: {$elem: {$eq: 3}}}", "{a: [{b: [1]}, {b: [2, 3]}]}");
        yes("{a: {$elem: {b: {$elem: {c: 1}}}}}", "{a: [{b: 1}, {b: [{c: [0, 1]}]}]}");
        // $not: not all of them hold
        no("{a: {$not: {$gt: 1}}}", "{a: 2}");
        yes("{a: {$not: {$gt: 1}}}", "{a: 1}");
        yes("{a: {$not: {$gt: 1}}}", "{a: 'x'}");
        yes("{a: {$not: {$gt: 1, $lt: 5}}}", "{a: 7}");
        no("{a: {$not: {$gt: 1, $lt: 5}}}", "{a: 3}");
        no("{a: {$not: {$not: {$gt: 1}}}}", "{a: 0}");
        yes("{a: {$not: {$eq: 1}, $lt: 5}}", "{a: 3}");
        no("{a: {$not: {$eq: 3}, $lt: 5}}", "{a: 3}");
    }

    private static void logic() {
        house = new DocumentHouse();
        yes("{$and: [{a: 1}, {b: 2}]}", "{a: 1, b: 2}");
        no("{$and: [{a: 1}, {b: 2}]}", "{a: 1, b: 3}");
        yes("{$and: [{}]}", "{}");
        yes("{$or: [{a: 1}, {b: 2}]}", "{a: 0, b: 2}");
        yes("{$or: [{a: 1}, {b: 2}]}", "{a: 1}");
        no("{$or: [{a: 1}, {b: 2}]}", "{a: 2, b: 1}");
        yes("{$nor: [{a: 1}, {b: 2}]}", "{a: 2, b: 1}");
        no("{$nor: [{a: 1}, {b: 2}]}", "{a: 2, b: 2}");
        no("{$nor: [{}]}", "{}");
        yes("{$or: [{$and: [{a: 1}, {$nor: [{b: 1}]}]}], c: 3}", "{a: 1, c: 3}");
        no("{$or: [{$and: [{a: 1}, {$nor: [{b: 1}]}]}], c: 3}", "{a: 1, b: 1, c: 3}");
        no("{$or: [{a: 1}], c: 4}", "{a: 1, c: 3}");
        no("{c: 4, $or: [{a: 1}]}", "{a: 1, c: 3}");
        yes("{a: 1, b: 2}", "{a: 1, b: 2}");
        no("{a: 1, b: 2}", "{a: 1}");
        yes("{a: {$exists: true, $ne: 5}, $and: [{a: {$gt: 0}}]}", "{a: 1}");
    }

    public static void main(String[] args) {
        order();
        paths();
        equals();
        compares();
        others();
        logic();
        Docs.end();
    }
}
