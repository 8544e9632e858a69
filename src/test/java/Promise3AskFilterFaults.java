/** Promise 3, Part III: the faults of filters, 11 to 15, in every request that has one. */
public final class Promise3AskFilterFaults {
    private static final DocumentHouse HOUSE = new DocumentHouse();

    private static void fault(int fault, String filter, String name) {
        fault(fault, filter, name, 1);
    }

    private static void fault(int fault, String filter, String name, int times) {
        String request = "{count: " + filter + ", shelf: 0}";
        Docs.faultAt(HOUSE, request, fault, name, times);
    }

    private static void right(String filter) {
        Docs.asks(HOUSE, "{count: " + filter + ", shelf: 1}", "{many: 0}");
    }

    /** A filter of so many elements, each {pN: V}. */
    private static String many(int n, String value) {
        StringBuilder filter = new StringBuilder("{");
        for (int i = 0; i < n; i++) {
            filter.append(i > 0 ? ", p" : "p").append(i).append(": ").append(value);
        }
        return filter + "}";
    }

    private static void names() {
        fault(11, "{$foo: 1}", "$foo");
        fault(11, "{$eq: 1}", "$eq");
        fault(11, "{$: 1}", "$");
        fault(11, "{$a.b: 1}", "$a.b");
        fault(11, "{a: 1, $andd: [{}]}", "$andd");
        fault(11, "{a: {$foo: 1}}", "$foo");
        fault(11, "{a: {$and: [{}]}}", "$and");
        fault(11, "{a: {$eq: 1, b: 1}}", "b");
        fault(11, "{a: {$eq: 1, '': 1}}", "");
        fault(11, "{a: {$: 1}}", "$");
        fault(11, "{a: {$not: {$or: [{}]}}}", "$or");
        fault(11, "{a: {$elem: {$eq: 1, $and: [{}]}}}", "$and");
        fault(11, "{a: {$elem: {b: 1, $eq: 1}}}", "$eq");
        right("{a: {b: {$foo: 1}, $foo: 1}}");
        right("{a: {$eq: {$foo: 1}}}");
        right("{a: {$in: [{$foo: 1}]}}");
        right("{a: {$elem: {$and: [{}], b: 1}}}");
        fault(13, "{'': 1}", "");
        fault(13, "{.: 1}", ".");
        fault(13, "{a..b: 1}", "a..b");
        fault(13, "{a.: 1}", "a.");
        fault(13, "{.a: 1}", ".a");
        fault(13, "{a.$b: 1}", "a.$b");
        fault(13, "{a.$: 1}", "a.$");
        fault(13, "{a.b.c.d.e.f.g.h.i: 1}", "a.b.c.d.e.f.g.h.i");
        right("{a.b.c.d.e.f.g.h: 1}");
        right("{a$.b$: 1}");
        fault(13, "{a: 1, a.$b: {$foo: 1}}", "a.$b");
    }

    private static void values() {
        for (String name : new String[] {"$and", "$or", "$nor"}) {
            for (String value : new String[] {"{}", "1", "null", "true", "'x'", "[]"}) {
                fault(12, "{a: 1, " + name + ": " + value + "}", name);
            }
            fault(12, "{" + name + ": [1]}", "0");
            fault(12, "{" + name + ": [{}, {a: 1}, []]}", "2");
            fault(11, "{" + name + ": [{}, {$a: 1}, []]}", "$a");
            fault(12, "{" + name + ": [{}, 1, {$a: 1}]}", "1");
        }
        for (String value : new String[] {"{}", "1", "null", "true", "'x'"}) {
            fault(14, "{a: {$in: " + value + "}}", "$in");
            fault(14, "{a: {$nin: " + value + "}}", "$nin");
        }
        for (String value : new String[] {"{}", "1", "null", "[]", "'x'", "0"}) {
            fault(14, "{a: {$exists: " + value + "}}", "$exists");
        }
        for (String value : new String[] {"{}", "-1", "-1L", "null", "[]", "'x'", "true"}) {
            fault(14, "{a: {$size: " + value + "}}", "$size");
        }
        right("{a: {$size: 9223372036854775807L}}");
        for (String value : new String[] {"1", "null", "[]", "'x'", "true"}) {
            fault(14, "{a: {$elem: " + value + "}}", "$elem");
            fault(14, "{a: {$not: " + value + "}}", "$not");
        }
        fault(14, "{a: {$not: {}}}", "$not");
        fault(14, "{a: {$not: {b: 1, $eq: 1}}}", "$not");
        right("{a: {$elem: {}}}");
        fault(14, "{a: {$eq: 1, $in: 1, $foo: 1}}", "$in");
        fault(11, "{a: {$eq: 1, $foo: 1, $in: 1}}", "$foo");
        fault(14, "{$or: [{a: 1}, {b: {$elem: {c: {$not: {$size: -5}}}}}], $foo: 1}", "$size");
        fault(13, "{$or: [{a: 1}, {b: {$elem: {.c: {$not: {$size: -5}}}}}], $foo: 1}", ".c");
    }

    private static void counts() {
        right(many(50, "1"));
        fault(15, many(51, "1"), "p50");
        right(many(50, "{$eq: 1}"));
        fault(15, many(51, "{$eq: 1}"), "p50");
        // 99 stand in nearly: the 100th is an element's, the 101st its condition's, which of {p: 1} has no place
        String nearly = "$and: [" + many(49, "1") + "]";
        fault(15, "{" + nearly + ", y: 1}", "y");
        fault(15, "{" + nearly + ", y: {$gt: 1}}", "$gt");
        fault(15, "{" + nearly + ", $or: [{}], z: 1}", "z");
        right("{" + nearly + ", $or: [{}]}");
        // elements of $elem and $not count, rows of $in and their items do not
        right("{a: {$in: [{$foo: 1}, {$bar: 1}, {a: 1}]}, $and: [" + many(48, "1") + "]}");
        fault(15, "{$and: [" + many(49, "1") + "], z: {$not: {$eq: 1}}}", "$not");
        fault(15, "{$and: [" + many(48, "1") + "], z: {$not: {$eq: 1, $ne: 1}}}", "$ne");
        right("{$and: [" + many(48, "1") + "], z: {$not: {$eq: 1}}}");
        fault(15, "{$and: [" + many(48, "1") + "], z: {$elem: {b: 1}}}", "b");
        fault(15, "{$and: [" + many(48, "1") + "], z: {$elem: {$gt: 1, $lt: 1}}}", "$lt");
        // of several at one place the first named
        fault(13, "{" + nearly + ", .y: 1}", ".y");
        fault(11, "{" + nearly + ", z: {$foo: 1}}", "$foo");
        fault(14, "{" + nearly + ", z: {$in: 1}}", "$in");
        fault(12, "{" + many(50, "1").substring(1, many(50, "1").length() - 1) + ", $or: 1}", "$or");
        fault(15, "{" + many(50, "1").substring(1, many(50, "1").length() - 1) + ", $or: [1]}", "$or");
    }

    private static void requests() {
        String[] requests = {"{find: F, shelf: 0}", "{count: F, shelf: 0}", "{delete: F, shelf: 0}",
            "{explain: F, shelf: 0}", "{update: F, shelf: 0, change: {}}", "{pipeline: [{$match: F}], shelf: 0}"};
        for (String request : requests) {
            Docs.faultAt(HOUSE, request.replace("F", "{$bad: 1}"), 11, "$bad");
            Docs.faultAt(HOUSE, request.replace("F", "{$or: 5}"), 12, "$or");
            Docs.faultAt(HOUSE, request.replace("F", "{..: 1}"), 13, "..");
            Docs.faultAt(HOUSE, request.replace("F", "{a: {$size: -1}}"), 14, "$size");
            Docs.faultAt(HOUSE, request.replace("F", many(51, "1")), 15, "p50");
        }
        Docs.due("documents", HOUSE.state(0), 1);
    }

    public static void main(String[] args) {
        Docs.asks(HOUSE, "{insert: {a: 1}, shelf: 0}", "{number: 1}");
        names();
        values();
        counts();
        requests();
        Docs.end();
    }
}
