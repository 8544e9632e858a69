/** Promise 3, Part II, sentence by sentence: the order of values at its edges, and paths. */
public final class Boundary2Paths {
    private static DocumentHouse house;

    private static void stand(String... documents) {
        house = new DocumentHouse();
        for (int i = 0; i < documents.length; i++) {
            Docs.asks(house, "{insert: " + documents[i] + ", shelf: 0}", "{number: " + (i + 1) + "}");
        }
    }

    private static void holds(boolean due, String filter, String document) {
        stand(document);
        String got = Docs.ask(house, "{count: " + filter + ", shelf: 0}");
        Docs.due(filter + " for " + document, got, due ? "{many: 1}" : "{many: 0}");
    }

    private static void gives(String stages, String... due) {
        Docs.asks(house, "{pipeline: [" + stages + "], shelf: 0}",
            "{many: " + due.length + ", found: [" + String.join(", ", due) + "]}");
    }

    /** "MISSING (0) is less than NOTHING (1), that less than numbers (2, of both kinds), .. texts, documents, rows, truths" */
    private static void classes() {
        stand("{v: '', n: 3}", "{v: false, n: 6}", "{n: 0}", "{v: {}, n: 4}", "{v: 9223372036854775807L, n: 2}",
            "{v: [], n: 5}", "{v: null, n: 1}");
        String project = ", {$project: {n: true}}";
        gives("{$sort: {v: 1}}" + project, "{n: 0}", "{n: 1}", "{n: 2}", "{n: 3}", "{n: 4}", "{n: 5}", "{n: 6}");
        gives("{$sort: {v: -1}}" + project, "{n: 6}", "{n: 5}", "{n: 4}", "{n: 3}", "{n: 2}", "{n: 1}", "{n: 0}");
        // the greatest of a class is less than the least of the next one
        less("{x: null}", "{x: -9223372036854775808L}");
        less("{x: 9223372036854775807L}", "{x: ''}");
        less("{x: '\uffff'}", "{x: {}}");
        less("{x: {z: true}}", "{x: []}");
        less("{x: [true, true]}", "{x: false}");
    }

    /** "numbers by value"; "Two are the SAME when neither is less (so are numbers of both kinds with one value)" */
    private static void numbers() {
        for (String x : new String[] {"0", "1", "-1", "2147483647", "-2147483648", "255", "-256", "65536"}) {
            holds(true, "{v: " + x + "L}", "{v: " + x + "}");
            holds(true, "{v: " + x + "}", "{v: " + x + "L}");
            holds(false, "{v: {$lt: " + x + "L}}", "{v: " + x + "}");
            holds(false, "{v: {$gt: " + x + "}}", "{v: " + x + "L}");
        }
        // alike in their low bytes alone
        holds(false, "{v: 4294967295L}", "{v: -1}");
        holds(false, "{v: 4294967296L}", "{v: 0}");
        holds(false, "{v: -9223372036854775808L}", "{v: 0L}");
        holds(false, "{v: 2147483648L}", "{v: -2147483648}");
        holds(true, "{v: {$lt: 4294967295L}}", "{v: -1}");
        holds(true, "{v: {$gt: -2147483649L}}", "{v: -2147483648}");
        holds(true, "{v: {$lt: 2147483648L}}", "{v: 2147483647}");
        // a difference of the two would be none of 32, of 64 bits
        holds(true, "{v: {$lt: 2147483647}}", "{v: -2147483648}");
        holds(true, "{v: {$gt: -2147483648}}", "{v: 2147483647}");
        holds(true, "{v: {$lt: 9223372036854775807L}}", "{v: -9223372036854775808L}");
        holds(true, "{v: {$gt: -9223372036854775808L}}", "{v: 9223372036854775807L}");
        holds(true, "{v: {$gt: -9223372036854775808L}}", "{v: -9223372036854775807L}");
    }

    private static void less(String one, String other) {
        holds(true, "{v: {$lt: " + other + "}}", "{v: " + one + "}");
        holds(true, "{v: {$gt: " + one + "}}", "{v: " + other + "}");
        holds(false, "{v: {$gte: " + other + "}}", "{v: " + one + "}");
        holds(false, "{v: {$lte: " + one + "}}", "{v: " + other + "}");
        holds(false, "{v: " + one + "}", "{v: " + other + "}");
    }

    private static void same(String one, String other) {
        holds(true, "{v: " + other + "}", "{v: " + one + "}");
        holds(true, "{v: {$gte: " + one + ", $lte: " + one + "}}", "{v: " + other + "}");
        holds(false, "{v: {$gt: " + one + "}}", "{v: " + other + "}");
        holds(false, "{v: {$lt: " + one + "}}", "{v: " + other + "}");
    }

    /** "texts byte by byte without sign, a text less than one that it begins" */
    private static void texts() {
        less("''", "'\0'");
        less("'\0'", "'\0\0'");
        less("'a'", "'a\0'");
        less("'a\0'", "'a\0\0'");
        less("'a\0z'", "'ab'");
        less("'\u007f'", "'\u0080'");
        less("'\u00bf'", "'\u00c0'");
        less("'zzzz'", "'\u00e9'");
        less("'\uffff'", "'\ud800\udc00'");
        less("'\u07ff'", "'\u0800'");
        same("''", "''");
        same("'\0'", "'\0'");
    }

    /**
     * "documents element by element: by the class of the value, then by the name (as texts), then by the value; rows item
     * by item; .. a document or row that ends first is less; a truth 0 less than 1"
     */
    private static void documentsAndRows() {
        less("{}", "{'': null}");
        less("{a: 1}", "{a: 1, '': null}");
        less("{z: null}", "{a: 0}");
        less("{z: 9}", "{a: ''}");
        less("{z: 'z'}", "{a: {}}");
        less("{z: {z: true}}", "{a: []}");
        less("{z: [true]}", "{a: false}");
        less("{a: 9}", "{b: 0}");
        less("{a: 9}", "{aa: 0}");
        less("{'': 9}", "{a: 0}");
        less("{z: 0}", "{'\u00e9': 0}");
        less("{a: 0, z: 9}", "{a: 1}");
        less("{a: {b: {c: [0, false]}}}", "{a: {b: {c: [0L, true]}}}");
        less("{a: 1, b: 2}", "{b: 2, a: 1}");
        less("false", "true");
        same("{a: 1, b: [2L, {c: 3}]}", "{a: 1L, b: [2, {c: 3L}]}");
        same("{}", "{}");
        same("true", "true");
        // rows, in a document, since the items of a leaf that is a row are compared, too
        less("{r: []}", "{r: [null]}");
        less("{r: [1]}", "{r: [1, null]}");
        less("{r: [1, 9]}", "{r: [2]}");
        less("{r: [9]}", "{r: ['']}");
        less("{r: [[]]}", "{r: [[0]]}");
        less("{r: [false, true]}", "{r: [true]}");
        same("{r: [1, {a: 2L}]}", "{r: [1L, {a: 2}]}");
        same("{r: []}", "{r: []}");
        // from the eleventh item on names get longer, which is nothing to the order
        less("{r: [0, 0, 0, 0, 0, 0, 0, 0, 0, 0, 0]}", "{r: [0, 0, 0, 0, 0, 0, 0, 0, 0, 1]}");
        less("{r: [0, 0, 0, 0, 0, 0, 0, 0, 0, 0]}", "{r: [0, 0, 0, 0, 0, 0, 0, 0, 0, 0, 0]}");
    }

    private static final String EIGHT = "a.b.c.d.e.f.g.h";
    private static final String[] NO_PATHS = {"", ".", "..", ".a", "a.", "a..b", "a.b..", EIGHT + ".i", EIGHT + ".",
        "." + EIGHT, EIGHT + ".$"};

    private static void requests(String path, String filter, String change, String stage, String index) {
        stand("{q: 1}");
        String name = "'" + path + "'";
        for (String f : new String[] {"{" + name + ": 1}", "{$and: [{" + name + ": {$gt: 1}}]}", "{x: {$elem: {" + name + ": 1}}}"}) {
            tells("{count: " + f + ", shelf: 0}", filter, path);
        }
        for (String operator : new String[] {"$set", "$unset", "$inc", "$push", "$pull", "$addToSet"}) {
            tells("{update: {q: 1}, shelf: 1, change: {" + operator + ": {" + name + ": 1}}}", change, path);
        }
        for (String s : new String[] {"{$unwind: '$P'}", "{$group: {by: '$P'}}", "{$group: {by: 1, x: {$push: '$P'}}}",
            "{$project: {x: '$P'}}", "{$sort: {'P': 1}}", "{$lookup: {here: 'P', there: 'a', as: 'x'}}",
            "{$lookup: {here: 'a', there: 'P', as: 'x'}}"}) {
            tells("{pipeline: [" + s.replace("P", path) + "], shelf: 1}", stage, "0");
        }
        tells("{index: [" + name + "], shelf: 1, down: [true]}", index, "0");
        tells("{index: ['q', " + name + "], shelf: 1, down: [true, false]}", index, "1");
    }

    /** An answer without a fault, or a fault at the first element of that name. */
    private static void tells(String request, String fault, String name) {
        String got = Docs.ask(house, request);
        if (fault.isEmpty()) {
            Docs.due(request, got.startsWith("{fault"), false);
        } else {
            Docs.due(request, got, "{fault: " + fault + ", place: " + Docs.placeOf(Docs.bytes(request), name, 1) + "}");
        }
    }

    /** "A PATH is names with a point between two of them: 1 to 8 STEPS, none of them empty, of right UTF-8 without a 0." */
    private static void steps() {
        for (String path : new String[] {"a", "a.b", "\u00e9.\u20ac", EIGHT, "0.00.-1", "a$.b$", " . ", "a.b.c.d.e.f.g.\ud83d\ude00"}) {
            requests(path, "", "", "", "");
        }
        for (String path : NO_PATHS) {
            requests(path, "13", "23", "33", "9");
        }
        // a step that begins with $ is one of changes alone
        for (String path : new String[] {"a.$", "a.$b.c", "a.b.c.d.e.f.g.$h"}) {
            requests(path, "13", "", "33", "9");
        }
        // a 0 stands in texts alone
        for (String path : new String[] {"\0", "a\0", "\0a", "a.\0", "a\0.b"}) {
            stand("{q: 1}");
            tells("{pipeline: [{$unwind: '$" + path + "'}], shelf: 0}", "33", "0");
            tells("{pipeline: [{$lookup: {here: 'a', there: '" + path + "', as: 'x'}}], shelf: 0}", "33", "0");
            tells("{index: ['" + path + "'], shelf: 0, down: [true]}", "9", "0");
        }
        holds(true, "{" + EIGHT + ": 5}", "{a: {b: {c: {d: {e: {f: {g: {h: 5}}}}}}}}");
        holds(false, "{a.b.c.d.e.f.g: 5}", "{a: {b: {c: {d: {e: {f: {g: {h: 5}}}}}}}}");
        holds(true, "{'\u00e9.\u20ac': 5}", "{'\u00e9': {'\u20ac': 5}}");
    }

    /** Each of these is a leaf of the path at the document, '' being MISSING; and none is a text that is none of them. */
    private static void leaf(String path, String document, String... leaves) {
        StringBuilder all = new StringBuilder();
        for (String leaf : leaves) {
            all.append(leaf.isEmpty() ? "" : "{'" + path + "': " + leaf + "}, ");
            holds(true, leaf.isEmpty() ? "{'" + path + "': null}" : "{'" + path + "': " + leaf + "}", document);
        }
        holds(false, "{'" + path + "': {$eq: 'none of them'}}", document);
        holds(leaves.length > 0 && !String.join("", leaves).isEmpty(), "{'" + path + "': {$exists: true}}", document);
        if (all.length() > 0) {
            holds(true, "{$and: [" + all.substring(0, all.length() - 2) + "]}", document);
        }
    }

    /** "behind the last step the value itself. At a document a step takes the element of that name .. if there is none .. MISSING" */
    private static void leavesOfDocuments() {
        leaf("a", "{a: 1}", "1");
        leaf("a", "{a: {b: 1}}", "{b: 1}");
        leaf("a", "{}", "");
        leaf("a.b", "{a: {}}", "");
        leaf("a.0", "{a: {'0': 4, '00': 5}}", "4");
        leaf("a.00", "{a: {'0': 4, '00': 5}}", "5");
        leaf("0.1", "{'0': {'1': 6}}", "6");
        // "At any other value: MISSING."
        for (String value : new String[] {"1", "2L", "'b'", "null", "true"}) {
            leaf("a.b", "{a: " + value + "}", "");
            leaf("a.0", "{a: " + value + "}", "");
            leaf("a.b.c", "{a: {b: " + value + "}}", "");
        }
    }

    /** "At a row a step that is decimal digits (0, or without a 0 ahead) takes the item of that number, if there is one" */
    private static void leavesOfItems() {
        String ten = "[90, 91, 92, 93, 94, 95, 96, 97, 98, 99";
        leaf("a.0", "{a: " + ten + "]}", "90");
        leaf("a.9", "{a: " + ten + "]}", "99");
        leaf("a.10", "{a: " + ten + ", 100]}", "100");
        for (String none : new String[] {"10", "00", "01", "-0", "-1", "+1", "1 ", " 1", "1L", "\u0661", "4294967296",
            "4294967297", "18446744073709551616", "99999999999999999999999999", "x"}) {
            holds(true, "{'a." + none + "': null}", "{a: " + ten + "]}");
            holds(true, "{'a." + none + "': {$exists: false}}", "{a: " + ten + "]}");
        }
        holds(true, "{a.0: null}", "{a: []}");
        leaf("a.0.0", "{a: [[5]]}", "5");
        leaf("a.0.0.0", "{a: [[[5]]]}", "5");
        leaf("a.0.b", "{a: [{b: 5}]}", "5");
    }

    /**
     * "then each step, digits or not, itself still to be taken, goes on at each item that is a document, in order. (So at
     * a row there may be no leaf at all.)"; "one value may be met more than once"
     */
    private static void leavesOfRows() {
        leaf("a.b", "{a: [{b: 1}, 7, {b: 'x'}, [{b: 8}], {c: 0}]}", "1", "'x'", "");
        holds(false, "{a.b: 8}", "{a: [{b: 1}, 7, {b: 'x'}, [{b: 8}], {c: 0}]}");
        leaf("a.1", "{a: [{'1': 3}, 4, {'1': 5}]}", "4", "3", "5");
        leaf("a.0", "{a: [{'0': 3}]}", "{'0': 3}", "3");
        leaf("a.0.0", "{a: [{'0': {'0': 3}}]}", "{'0': 3}", "3");
        // no leaf at all is as MISSING for a filter
        for (String row : new String[] {"[]", "[1]", "[[]]", "[[{b: 1}]]", "['b', null]"}) {
            holds(true, "{a.b: null}", "{a: " + row + "}");
            holds(true, "{a.b: {$exists: false}}", "{a: " + row + "}");
            holds(false, "{a.b: {$exists: true}}", "{a: " + row + "}");
            holds(true, "{a.b: {$ne: 1}}", "{a: " + row + "}");
            holds(false, "{a.b: {$lte: 1}}", "{a: " + row + "}");
            holds(true, "{a.b: {$not: {$size: 0}}}", "{a: " + row + "}");
        }
        // a document of a row takes the whole step again, its own rows too
        leaf("a.b.c", "{a: [{b: [{c: 1}, {c: 2}]}, {b: {c: 3}}]}", "1", "2", "3");
        leaf("a.b.1", "{a: [{b: [8, 9]}, {b: [{'1': 5}]}]}", "9", "5");
    }

    public static void main(String[] args) {
        classes();
        numbers();
        texts();
        documentsAndRows();
        steps();
        leavesOfDocuments();
        leavesOfItems();
        leavesOfRows();
        Docs.end();
    }
}
