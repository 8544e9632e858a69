/** Promise 3, Part III, sentence by sentence: filters and conditions at their edges, and what is none. */
public final class Boundary3Filters {
    private static DocumentHouse house;

    private static void stand(String document) {
        house = new DocumentHouse();
        Docs.asks(house, "{insert: " + document + ", shelf: 0}", "{number: 1}");
    }

    private static void holds(boolean due, String filter, String document) {
        stand(document);
        String got = Docs.ask(house, "{count: " + filter + ", shelf: 0}");
        Docs.due(filter + " for " + document, got, due ? "{many: 1}" : "{many: 0}");
    }

    private static void yes(String filter, String document) {
        holds(true, filter, document);
    }

    private static void no(String filter, String document) {
        holds(false, filter, document);
    }

    private static void fault(int fault, String filter, String name, int times) {
        stand("{a: 1}");
        Docs.faultAt(house, "{count: " + filter + ", shelf: 0}", fault, name, times);
    }

    private static void fault(int fault, String filter, String name) {
        fault(fault, filter, name, 1);
    }

    /** "A FILTER is a document ..: each of its elements has to HOLD." */
    private static void emptyFilter() {
        yes("{}", "{}");
        yes("{}", "{a: 1}");
        yes("{$and: [{}]}", "{}");
        no("{a: 1, b: 1, c: 2}", "{a: 1, b: 1, c: 1}");
        no("{c: 2, a: 1, b: 1}", "{a: 1, b: 1, c: 1}");
    }

    /** "its value is a row of filters, at least one: all of them hold ..; some of them does; none of them does" */
    private static void rowsOfFilters() {
        String[] rows = {"[{a: 1}]", "[{a: 0}]", "[{a: 1}, {a: 1}]", "[{a: 1}, {a: 0}]", "[{a: 0}, {a: 1}]", "[{a: 0}, {a: 0}]"};
        for (String row : rows) {
            holds(!row.contains("0"), "{$and: " + row + "}", "{a: 1}");
            holds(row.contains("1"), "{$or: " + row + "}", "{a: 1}");
            holds(!row.contains("1"), "{$nor: " + row + "}", "{a: 1}");
        }
        for (String name : new String[] {"$and", "$or", "$nor"}) {
            fault(12, "{" + name + ": []}", name);
            fault(12, "{" + name + ": {}}", name);
            fault(12, "{" + name + ": {'0': {}}}", name);
            fault(12, "{" + name + ": [{}, 1]}", "1");
            fault(12, "{" + name + ": [[]]}", "0");
            fault(12, "{" + name + ": [{" + name + ": []}]}", name, 2);
        }
    }

    /** "CONDITIONS, which is a document whose first name begins with $, or any other value v: that is $eq v alone" */
    private static void conditionsOrValues() {
        yes("{a: {}}", "{a: {}}");
        no("{a: {}}", "{a: {b: 1}}");
        yes("{a: {b: 1, $gt: 5}}", "{a: {b: 1, $gt: 5}}");
        no("{a: {b: 1, $gt: 5}}", "{a: 7}");
        yes("{a: {'': 1}}", "{a: {'': 1}}");
        yes("{a: {a$: 1}}", "{a: {a$: 1}}");
        yes("{a: [{$gt: 5}]}", "{a: [{$gt: 5}]}");
        no("{a: [{$gt: 5}]}", "{a: [7]}");
        fault(11, "{a: {$: 1}}", "$");
        fault(11, "{a: {$gt: 5, b: 1}}", "b");
        fault(11, "{a: {$gt: 5, '': 1}}", "");
        fault(11, "{a: {$Gt: 5}}", "$Gt");
        fault(11, "{a: {$gtt: 5}}", "$gtt");
        fault(11, "{a: {$g: 5}}", "$g");
    }

    /** "with NOTHING as v also when a leaf is MISSING"; "$in: v is a row, and $eq of some item of it holds" */
    private static void nothingAndMissing() {
        String[] missing = {"{}", "{b: 1}"};
        for (String document : missing) {
            for (String c : new String[] {"$eq: null", "$in: [null]", "$in: [1, null]", "$lte: null", "$gte: null", "$ne: 1",
                "$nin: []", "$nin: [1]", "$exists: false", "$not: {$eq: 1}", "$not: {$exists: true}"}) {
                yes("{a: {" + c + "}}", document);
            }
            for (String c : new String[] {"$ne: null", "$nin: [null]", "$nin: [1, null]", "$lt: null", "$gt: null", "$in: []",
                "$in: [1]", "$lt: 1", "$lte: 1", "$gte: false", "$size: 0", "$elem: {}", "$elem: {$exists: false}",
                "$exists: true", "$not: {$eq: null}", "$eq: [null]", "$in: [[]]"}) {
                no("{a: {" + c + "}}", document);
            }
        }
        // a row without items is neither NOTHING nor MISSING, nor is any other value
        for (String value : new String[] {"[]", "{}", "0", "0L", "''", "false"}) {
            no("{a: null}", "{a: " + value + "}");
            no("{a: {$lte: null}}", "{a: " + value + "}");
            yes("{a: {$ne: null}}", "{a: " + value + "}");
            yes("{a: {$exists: true}}", "{a: " + value + "}");
        }
        // of several leaves one that is MISSING is enough for NOTHING, all have to be for $exists
        yes("{a.b: null}", "{a: [{b: 1}, {}]}");
        no("{a.b: {$exists: false}}", "{a: [{b: 1}, {}]}");
        yes("{a.b: {$exists: false}}", "{a: [{}, {}]}");
        // an item that is a row is no leaf: its own items are none of the leaf's
        no("{a: null}", "{a: [[null]]}");
        no("{a: 5}", "{a: [[5]]}");
        yes("{a: [5]}", "{a: [[5]]}");
        yes("{a: [[5]]}", "{a: [[5]]}");
    }

    /** "$lt, $lte, $gt, $gte: some leaf, or some item of a leaf that is a row, is of v's class and less .. not less" */
    private static void comparisons() {
        String[] values = {"0", "1", "2"};
        for (String x : values) {
            holds(x.equals("0"), "{a: {$lt: 1}}", "{a: " + x + "}");
            holds(!x.equals("2"), "{a: {$lte: 1}}", "{a: " + x + "}");
            holds(x.equals("2"), "{a: {$gt: 1}}", "{a: " + x + "}");
            holds(!x.equals("0"), "{a: {$gte: 1}}", "{a: " + x + "}");
            holds(x.equals("0"), "{a: {$lt: 1}}", "{a: ['', " + x + "]}");
            holds(!x.equals("0"), "{a: {$gte: 1}}", "{a: [false, " + x + ", null]}");
        }
        // a row without items, since an item of another class would be compared as well
        String[] classes = {"null", "0", "'x'", "{a: 1}", "[]", "true"};
        for (int i = 0; i < classes.length; i++) {
            for (int k = 0; k < classes.length; k++) {
                for (String name : new String[] {"$lt", "$gt"}) {
                    no("{a: {" + name + ": " + classes[i] + "}}", "{a: " + classes[k] + "}");
                }
                for (String name : new String[] {"$lte", "$gte"}) {
                    holds(i == k, "{a: {" + name + ": " + classes[i] + "}}", "{a: " + classes[k] + "}");
                }
            }
        }
    }

    /** "$size: v is a number from 0 on; some leaf is a row with so many items" */
    private static void sizes() {
        StringBuilder row = new StringBuilder("[");
        for (int n = 0; n <= 12; n++) {
            for (int size : new int[] {0, n - 1, n, n + 1, n + 256}) {
                if (size >= 0) {
                    holds(size == n, "{a: {$size: " + size + "}}", "{a: " + row + "]}");
                    holds(size == n, "{a: {$size: " + size + "L}}", "{a: " + row + "]}");
                }
            }
            no("{a: {$size: " + (n + 4294967296L) + "L}}", "{a: " + row + "]}");
            row.append(n > 0 ? ", 0" : "0");
        }
        for (String value : new String[] {"{}", "0", "''", "null", "false"}) {
            no("{a: {$size: 0}}", "{a: " + value + "}");
        }
        for (String value : new String[] {"-1", "-1L", "-2147483648", "-9223372036854775808L", "-4294967296L"}) {
            fault(14, "{a: {$size: " + value + "}}", "$size");
        }
    }

    /** "$elem: v is a document; some leaf is a row that has an item for which v holds" */
    private static void elems() {
        no("{a: {$elem: {$exists: true}}}", "{a: []}");
        yes("{a: {$elem: {$exists: true}}}", "{a: [null]}");
        no("{a: {$elem: {$exists: false}}}", "{a: [null]}");
        no("{a: {$elem: {}}}", "{a: []}");
        no("{a: {$elem: {}}}", "{a: [[], 1, 'x', null, true]}");
        yes("{a: {$elem: {}}}", "{a: [[], 1, {}]}");
        // the item as the only leaf: an item that is a row has items of its own
        yes("{a: {$elem: {$eq: 5}}}", "{a: [5]}");
        yes("{a: {$elem: {$eq: 5}}}", "{a: [[5]]}");
        no("{a: {$elem: {$eq: 5}}}", "{a: [[[5]]]}");
        yes("{a: {$elem: {$elem: {$elem: {$eq: 5}}}}}", "{a: [[[5]]]}");
        yes("{a: {$elem: {$eq: [5]}}}", "{a: [[5]]}");
        no("{a: {$elem: {$ne: 5}}}", "{a: [5, [5]]}");
        no("{a: {$elem: {$gt: 0, $lt: 5}}}", "{a: [0, 5]}");
        yes("{a: {$elem: {$gt: 0, $lt: 5}}}", "{a: [[1, 9]]}");
        no("{a: {$elem: {a: 5}}}", "{a: {a: 5}}");
        no("{a: {$elem: {a: 5}}}", "{a: [[{a: 5}]]}");
        yes("{a: {$elem: {a: 5, b: null}}}", "{a: [{a: 5}]}");
        yes("{a.b: {$elem: {$eq: 5}}}", "{a: [{b: 4}, {b: [4, 5]}]}");
        // with $and, $or, $nor first it is a filter, which any other name that begins with $ is none of
        yes("{a: {$elem: {$nor: [{b: 1}]}}}", "{a: [{b: 2}]}");
        no("{a: {$elem: {$nor: [{b: 1}]}}}", "{a: [2]}");
        fault(11, "{a: {$elem: {$and: [{}], $gt: 1}}}", "$gt");
        fault(11, "{a: {$elem: {b: 1, $gt: 1}}}", "$gt");
        fault(11, "{a: {$elem: {$gt: 1, b: 1}}}", "b");
        fault(11, "{a: {$elem: {$gt: 1, $or: [{}]}}}", "$or");
        fault(11, "{a: {$elem: {$foo: 1}}}", "$foo");
        fault(12, "{a: {$elem: {$or: []}}}", "$or");
        fault(13, "{a: {$elem: {'': 1}}}", "");
    }

    /** "$not: v is CONDITIONS; not all of them hold" */
    private static void nots() {
        for (int x = 0; x < 4; x++) {
            String document = "{a: " + x + "}";
            holds(x != 1, "{a: {$not: {$eq: 1}}}", document);
            holds(x == 1, "{a: {$not: {$not: {$eq: 1}}}}", document);
            holds(x == 0 || x == 3, "{a: {$not: {$gt: 0, $lt: 3}}}", document);
            holds(x == 3, "{a: {$not: {$gt: 0, $lt: 3}, $ne: 0}}", document);
        }
        for (String value : new String[] {"{}", "{a: 1}", "{'': 1}", "1", "[]", "[{$eq: 1}]", "null", "'$eq'", "true"}) {
            fault(14, "{a: {$not: " + value + "}}", "$not");
        }
        fault(11, "{a: {$not: {$eq: 1, b: 1}}}", "b");
    }

    private static String values(int n, String value) {
        StringBuilder elements = new StringBuilder();
        for (int i = 0; i < n; i++) {
            elements.append(i > 0 ? ", p" : "p").append(i).append(": ").append(value);
        }
        return elements.toString();
    }

    private static void right(String filter) {
        house = new DocumentHouse();
        Docs.asks(house, "{count: " + filter + ", shelf: 0}", "{many: 0}");
    }

    /** "5: there would be more than 100 elements of filters and conditions (an element with a value alone counts two)" */
    private static void oneHundred() {
        right("{" + values(50, "1") + "}");
        fault(15, "{" + values(50, "1") + ", q: 1}", "q");
        right("{" + values(50, "{$ne: 1}") + "}");
        fault(15, "{" + values(50, "{$ne: 1}") + ", q: {$ne: 1}}", "q");
        right("{" + values(33, "{$ne: 1, $gt: 1}") + ", $and: [{}]}");
        fault(15, "{" + values(33, "{$ne: 1, $gt: 1}") + ", q: 1}", "q");
        fault(15, "{" + values(33, "{$ne: 1, $gt: 1}") + ", q: {$ne: 1}}", "$ne", 34);
        fault(15, "{" + values(33, "{$ne: 1, $gt: 1}") + ", $and: [{q: {$ne: 1}}]}", "q");
        fault(15, "{" + values(33, "{$ne: 1, $gt: 1}") + ", $and: [{}, {}], $or: [{}]}", "$or");
        // each {p: {$elem: {q: 1}}} has four, {p: {$elem: {$ne: 1}}} and {p: {$not: {$ne: 1}}} three
        right("{" + values(25, "{$elem: {q: 1}}") + "}");
        fault(15, "{" + values(25, "{$elem: {q: 1}}") + ", z: 1}", "z");
        right("{" + values(33, "{$elem: {$ne: 1}}") + ", $nor: [{}]}");
        fault(15, "{" + values(33, "{$elem: {$ne: 1}}") + ", z: {$elem: {}}}", "$elem", 34);
        fault(15, "{" + values(33, "{$not: {$ne: 1}}") + ", z: {$not: {$ne: 1}}}", "$not", 34);
        // values are no filters: their elements, and the items of rows, are not counted
        right("{a: {" + values(60, "1") + "}, b: {$in: [{" + values(60, "1") + "}, {$and: 1}]}, " + values(48, "1") + "}");
        fault(15, "{a: {" + values(60, "1") + "}, b: {$in: [{x: 1}]}, " + values(48, "1") + ", z: 1}", "z");
        // each filter is counted alone: the next request's, and each $match's
        house = new DocumentHouse();
        String match = "{$match: {" + values(50, "1") + "}}";
        Docs.asks(house, "{pipeline: [" + match + ", " + match + "], shelf: 0}", "{many: 0, found: []}");
        Docs.asks(house, "{pipeline: [" + match + "], shelf: 0}", "{many: 0, found: []}");
        Docs.faultAt(house, "{pipeline: [" + match + ", {$match: {" + values(50, "1") + ", q: 1}}], shelf: 0}", 15, "q");
    }

    /** "FAULTS of a filter, the first one by its PLACE ..; of several there the first of these" */
    private static void whichFault() {
        fault(11, "{$a..b: {$in: 1}}", "$a..b");
        fault(13, "{a..b: {$in: 1}}", "a..b");
        fault(13, "{a..b: {$foo: 1}}", "a..b");
        fault(14, "{a: {$in: {}, $foo: 1}, $foo: 1}", "$in");
        fault(12, "{$or: [{a: 1}, {$nor: []}], b..c: 1}", "$nor");
        fault(12, "{$or: [{a: 1}, {b: {$ne: 1}}, 5, {$foo: 1}]}", "2");
        fault(11, "{$or: [{a: 1}, {$foo: 1}, 5]}", "$foo");
        String hundred = values(50, "1");
        fault(11, "{" + hundred + ", $foo: 1}", "$foo");
        fault(12, "{" + hundred + ", $or: 1}", "$or");
        fault(13, "{" + hundred + ", .: 1}", ".");
        fault(15, "{" + hundred + ", $or: [1]}", "$or");
        fault(11, "{" + hundred.replace("p49: 1", "p49: {$foo: 1}") + "}", "$foo");
        fault(14, "{" + hundred.replace("p0: 1", "p0: {$ne: 1, $lt: 1}").replace("p49: 1", "z: {$size: 'x'}") + "}", "$size");
    }

    /** A request is at most 16 deep, so a filter in it is at most 15. */
    private static void deepFilters() {
        String filter = "{a: 1}";
        for (int i = 0; i < 7; i++) {
            filter = "{$and: [" + filter + "]}";
        }
        yes(filter, "{a: 1}");
        no(filter, "{a: 2}");
        filter = "{$eq: 1}";
        for (int i = 0; i < 13; i++) {
            filter = "{$not: " + filter + "}";
        }
        no("{a: " + filter + "}", "{a: 1}");
        yes("{a: " + filter + "}", "{a: 2}");
        String row = "1";
        filter = "{$eq: 1}";
        for (int i = 0; i < 13; i++) {
            row = "[" + row + "]";
            filter = "{$elem: " + filter + "}";
        }
        yes("{a: " + filter + "}", "{a: " + row + "}");
        no("{a: " + filter + "}", "{a: " + row.replace("1", "2") + "}");
        yes("{a: " + filter.replace("$eq: 1", "$exists: true") + "}", "{a: " + row + "}");
    }

    public static void main(String[] args) {
        emptyFilter();
        rowsOfFilters();
        conditionsOrValues();
        nothingAndMissing();
        comparisons();
        sizes();
        elems();
        nots();
        oneHundred();
        whichFault();
        deepFilters();
        Docs.end();
    }
}
