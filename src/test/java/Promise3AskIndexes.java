/** Promise 3, Part VI: what explain tells of the choice among indexes, its rank, ranges and what is looked at. */
public final class Promise3AskIndexes {
    private static DocumentHouse house = new DocumentHouse();

    private static void stand(String... documents) {
        house = new DocumentHouse();
        for (String document : documents) {
            Docs.ask(house, "{insert: " + document + ", shelf: 0}");
        }
    }

    private static void index(String paths, String down, int due) {
        Docs.asks(house, "{index: " + paths + ", shelf: 0, down: " + down + "}", "{index: " + due + "}");
    }

    private static void explains(String filter, int index, int rank, int ranges, int looked) {
        Docs.asks(house, "{explain: " + filter + ", shelf: 0}",
            "{index: " + index + ", rank: " + rank + ", ranges: " + ranges + ", looked: " + looked + "}");
    }

    private static void none(String filter) {
        explains(filter, -1, 0, 1, house.state(0));
    }

    /** Which conditions have bounds, and which; the path is not MANY-KEYED. */
    private static void bounds() {
        stand("{a: 1}", "{a: 2L}", "{a: 5}", "{a: 'x'}", "{a: null}", "{b: 1}", "{a: {}}", "{a: {c: 1}}", "{a: []}",
            "{a: [7]}", "{a: [[7]]}", "{a: true}", "{a: false}", "{a: ''}");
        none("{a: 1}");
        index("['a']", "[false]", 0);
        none("{}");
        none("{b: 1}");
        explains("{a: 1}", 0, 2, 1, 1);
        explains("{a: 2}", 0, 2, 1, 1);
        explains("{a: 7L}", 0, 2, 1, 1);
        explains("{a: 3}", 0, 2, 1, 0);
        explains("{a: {$eq: 'x'}}", 0, 2, 1, 1);
        explains("{a: null}", 0, 2, 1, 3);
        explains("{a: {}}", 0, 2, 1, 1);
        explains("{a: {c: 1L}}", 0, 2, 1, 1);
        none("{a: []}");
        none("{a: [7]}");
        none("{a: {$eq: [7]}}");
        explains("{a: {$in: [1, 5, 9]}}", 0, 2, 3, 2);
        explains("{a: {$in: [1, 5, 1L, null, 5]}}", 0, 2, 3, 5);
        explains("{a: {$in: []}}", 0, 2, 0, 0);
        none("{a: {$in: [1, [7]]}}");
        explains("{a: {$lt: 5}}", 0, 1, 1, 2);
        explains("{a: {$lte: 5}}", 0, 1, 1, 3);
        explains("{a: {$gt: 2}}", 0, 1, 1, 2);
        explains("{a: {$gte: 2}}", 0, 1, 1, 3);
        explains("{a: {$gt: ''}}", 0, 1, 1, 1);
        explains("{a: {$gte: ''}}", 0, 1, 1, 2);
        explains("{a: {$lt: ''}}", 0, 1, 1, 0);
        explains("{a: {$lt: true}}", 0, 1, 1, 1);
        explains("{a: {$gte: false}}", 0, 1, 1, 2);
        explains("{a: {$gt: {}}}", 0, 1, 1, 1);
        explains("{a: {$lte: null}}", 0, 2, 1, 3);
        explains("{a: {$gte: null}}", 0, 2, 1, 3);
        explains("{a: {$lt: null}}", 0, 2, 0, 0);
        explains("{a: {$gt: null}}", 0, 2, 0, 0);
        none("{a: {$gt: []}}");
        none("{a: {$lte: [7]}}");
        for (String none : new String[] {"$ne: 1", "$nin: [1]", "$exists: true", "$exists: false", "$size: 0",
            "$not: {$eq: 1}", "$elem: {}", "$elem: {b: 1}", "$elem: {$ne: 1}", "$elem: {$eq: [7]}",
            "$elem: {$and: [{b: 1}]}", "$elem: {$elem: {$eq: 1}}", "$elem: {$not: {$eq: 1}}"}) {
            none("{a: {" + none + "}}");
        }
        // of $elem: what all of its conditions bound, and all rows
        explains("{a: {$elem: {$eq: 7}}}", 0, 1, 2, 2);
        explains("{a: {$elem: {$gt: 2, $lt: 7, $ne: 1}}}", 0, 1, 2, 2);
        explains("{a: {$elem: {$in: [1, 7], $exists: true}}}", 0, 1, 3, 3);
        explains("{a: {$elem: {$eq: 1, $gt: 1}}}", 0, 1, 1, 1);
        explains("{a: {$elem: {$eq: 1, $in: [[1]]}}}", 0, 1, 2, 2);
    }

    /** What is in two sets, of a path that is not MANY-KEYED. */
    private static void meets() {
        stand("{a: 1}", "{a: 2}", "{a: 3}", "{a: 'x'}", "{}");
        index("['a']", "[true]", 0);
        explains("{a: {$gt: 1, $lt: 3}}", 0, 1, 1, 1);
        explains("{a: {$gte: 1, $lte: 3}}", 0, 1, 1, 3);
        explains("{a: {$gte: 1, $gt: 1}}", 0, 1, 1, 2);
        explains("{a: {$gt: 1, $gte: 1}}", 0, 1, 1, 2);
        explains("{a: {$lt: 3, $lte: 3}}", 0, 1, 1, 2);
        explains("{a: {$lte: 3, $lt: 3}}", 0, 1, 1, 2);
        explains("{a: {$gte: 2, $lte: 2}}", 0, 2, 1, 1);
        explains("{a: {$gte: 2L, $lte: 2}}", 0, 2, 1, 1);
        explains("{a: {$gt: 2, $lte: 2}}", 0, 2, 0, 0);
        explains("{a: {$gte: 2, $lt: 2}}", 0, 2, 0, 0);
        explains("{a: {$gt: 2, $lt: 2}}", 0, 2, 0, 0);
        explains("{a: {$gt: 3, $lt: 1}}", 0, 2, 0, 0);
        explains("{a: {$gt: 1, $lt: 'x'}}", 0, 2, 0, 0);
        explains("{a: {$gt: 1, $eq: 'x'}}", 0, 2, 0, 0);
        explains("{a: {$eq: 1, $lt: 5}}", 0, 2, 1, 1);
        explains("{a: {$lt: 1, $eq: 1}}", 0, 2, 0, 0);
        explains("{a: {$in: [1, 2, 'x'], $gt: 1}}", 0, 2, 1, 1);
        explains("{a: {$gt: 1, $in: [1, 2, 'x', 3]}}", 0, 2, 2, 2);
        explains("{a: {$in: [1, 2, 9]}}", 0, 2, 3, 2);
        explains("{a: 1, $and: [{a: 2}]}", 0, 2, 0, 0);
        explains("{a: {$in: [1, 2, 3]}, $and: [{a: {$in: [2, 3, 4]}}, {$and: [{a: {$ne: 2}}, {a: {$gt: 2}}]}]}", 0, 2, 1, 1);
        explains("{$and: [{$and: [{b: 1, a: 3}]}]}", 0, 2, 1, 1);
        none("{$or: [{a: 3}]}");
        none("{$nor: [{a: 3}]}");
        none("{a.b: 3}");
        none("{b: {$elem: {a: 3}}}");
        explains("{a: {$ne: 1, $gt: 1, $exists: true}}", 0, 1, 1, 2);
        explains("{$or: [{b: 1}], a: {$not: {$eq: 1}, $eq: 2}}", 0, 2, 1, 1);
        explains("{a: {$elem: {$gt: 1}, $lt: 3}}", 0, 1, 1, 1);
        explains("{a: {$elem: {$gt: 1, $lt: 5}}}", 0, 1, 2, 2);
        explains("{a: {$elem: {$in: [1, 2]}, $gte: 2}}", 0, 2, 1, 1);
    }

    /** A MANY-KEYED path: the first $eq or $in that has bounds, or the first that has some. */
    private static void many() {
        stand("{a: [1, 2, 1L]}", "{a: 3}", "{a: [4, 5]}", "{a: [2, 2L]}");
        index("['a']", "[false]", 0);
        Docs.asks(house, "{shape: 0, shelf: 0}", "{entries: 6, levels: 1, leaves: 1, nodes: 1, first: true, second: false}");
        explains("{a: {$gt: 1, $lt: 4}}", 0, 1, 1, 4);
        explains("{a: {$lt: 4, $gt: 1}}", 0, 1, 1, 3);
        explains("{a: {$gt: 1, $eq: 2}}", 0, 2, 1, 2);
        explains("{a: {$gt: 1}, $and: [{a: {$in: [4, 5, 6]}}, {a: 2}]}", 0, 2, 3, 1);
        explains("{a: {$gt: 1, $eq: [1]}, $and: [{a: {$in: [[4], 5, 6]}}]}", 0, 1, 1, 4);
        explains("{a: {$elem: {$eq: 2}, $gt: 4}}", 0, 1, 2, 2);
        explains("{a: {$ne: 2, $elem: {$gt: 1, $lt: 3}}}", 0, 1, 2, 2);
        explains("{a: {$elem: {$gt: 1}, $eq: 3}}", 0, 2, 1, 1);
        none("{a: {$ne: 2, $eq: [1]}}");
        // it stays so until the index goes
        Docs.asks(house, "{delete: {a: {$size: 2}}, shelf: 0}", "{many: 2}");
        Docs.asks(house, "{delete: {a: {$size: 3}}, shelf: 0}", "{many: 1}");
        explains("{a: {$gt: 1, $lt: 3}}", 0, 1, 1, 1);
        Docs.asks(house, "{shape: 0, shelf: 0}", "{entries: 1, levels: 1, leaves: 1, nodes: 1, first: true, second: false}");
        Docs.asks(house, "{drop: 0, shelf: 0}", "{dropped: true}");
        index("['a']", "[false]", 0);
        Docs.asks(house, "{shape: 0, shelf: 0}", "{entries: 1, levels: 1, leaves: 1, nodes: 1, first: false, second: false}");
        explains("{a: {$gt: 1, $lt: 3}}", 0, 1, 1, 0);
        // several leaves that are the SAME, or one, are no several keys
        Docs.ask(house, "{insert: {a: [6, 6L]}, shelf: 0}");
        explains("{a: {$gt: 3, $lt: 5}}", 0, 1, 1, 0);
        Docs.asks(house, "{update: {a: 6}, shelf: 0, change: {$push: {a: 7}}}", "{many: 1, changed: 1}");
        Docs.asks(house, "{update: {a: 6}, shelf: 0, change: {$set: {a: 6}}}", "{many: 1, changed: 1}");
        Docs.asks(house, "{shape: 0, shelf: 0}", "{entries: 2, levels: 1, leaves: 1, nodes: 1, first: true, second: false}");
        explains("{a: {$gt: 3, $lt: 5}}", 0, 1, 1, 1);
    }

    private static void ranks() {
        stand("{a: 1, b: 1}", "{a: 1, b: 2}", "{a: 2, b: 1}", "{a: 2}", "{b: 2}", "{a: 1, b: [1, 5]}");
        index("['a', 'b']", "[false, true]", 0);
        explains("{a: 1}", 0, 2, 1, 3);
        explains("{a: 1, b: 1}", 0, 3, 1, 2);
        explains("{a: 1, b: 5}", 0, 3, 1, 1);
        explains("{a: 1, b: {$gt: 1}}", 0, 3, 1, 2);
        explains("{a: {$in: [1, 2]}, b: {$in: [1, 2, 3]}}", 0, 3, 6, 4);
        explains("{a: {$in: [1, 2]}, b: null}", 0, 3, 2, 1);
        explains("{a: {$gt: 1}, b: 1}", 0, 1, 1, 2);
        explains("{a: null}", 0, 2, 1, 1);
        explains("{a: {$in: []}, b: 1}", 0, 3, 0, 0);
        explains("{a: {$in: []}, b: {$ne: 1}}", 0, 2, 0, 0);
        none("{b: 1}");
        Docs.asks(house, "{shape: 0, shelf: 0}", "{entries: 7, levels: 1, leaves: 1, nodes: 1, first: false, second: true}");
        Docs.asks(house, "{delete: {b: 5}, shelf: 0}", "{many: 1}");
        Docs.asks(house, "{shape: 0, shelf: 0}", "{entries: 5, levels: 1, leaves: 1, nodes: 1, first: false, second: true}");
        Docs.asks(house, "{drop: 0, shelf: 0}", "{dropped: true}");
        index("['a', 'b']", "[false, true]", 0);
        Docs.asks(house, "{shape: 0, shelf: 0}", "{entries: 5, levels: 1, leaves: 1, nodes: 1, first: false, second: false}");
        Docs.asks(house, "{insert: {a: 1, b: [1, 5]}, shelf: 0}", "{number: 7}");
        index("['b']", "[false]", 1);
        explains("{b: 1}", 1, 2, 1, 3);
        explains("{a: 1, b: 1}", 0, 3, 1, 2);
        explains("{a: {$gt: 0}, b: 1}", 1, 2, 1, 3);
        explains("{a: {$gt: 0}, b: {$lt: 2}}", 0, 1, 1, 5);
        // fewer ranges first, then the lesser number
        explains("{a: {$in: [1, 2]}, b: {$ne: 0, $in: [1, 2, 7]}}", 0, 3, 6, 4);
        index("['a']", "[false]", 2);
        explains("{a: {$in: [1, 2]}}", 0, 2, 2, 5);
        index("['b', 'a']", "[false, false]", 3);
        explains("{a: 1, b: 1}", 0, 3, 1, 2);
        Docs.asks(house, "{drop: 0, shelf: 0}", "{dropped: true}");
        explains("{a: 1, b: 1}", 3, 3, 1, 2);
        explains("{a: {$in: [1, 2]}, b: {$gt: 0}}", 2, 2, 2, 5);
        explains("{a: {$in: [1, 2]}, b: {$in: [7, 8, 9]}}", 3, 3, 6, 0);
        Docs.asks(house, "{drop: 3, shelf: 0}", "{dropped: true}");
        explains("{a: {$in: [1, 2]}, b: {$in: [7, 8, 9]}}", 2, 2, 2, 5);
        explains("{a: {$in: [1, 2, 3]}, b: {$in: [1, 8]}}", 1, 2, 2, 3);
        explains("{a: {$in: [1, 2]}, b: {$in: [1, 8]}}", 1, 2, 2, 3);
        // the least number that there isn't yet
        index("['a']", "[true]", 0);
        explains("{a: 1}", 0, 2, 1, 3);
        index("['a', 'c']", "[true, true]", 3);
        Docs.asks(house, "{index: ['c'], shelf: 0, down: [true]}", "{fault: 40, place: -1}");
        Docs.asks(house, "{index: ['c'], shelf: 1, down: [true]}", "{index: 0}");
        explains("{a: 1, c: null}", 3, 3, 1, 3);
        Docs.asks(house, "{explain: {a: 1, c: 1}, shelf: 1}", "{index: 0, rank: 2, ranges: 1, looked: 0}");
        // indexes change nothing of what is found
        Docs.asks(house, "{count: {a: 1, b: 1}, shelf: 0}", "{many: 2}");
        Docs.asks(house, "{pipeline: [{$match: {b: {$gt: 1}}}], shelf: 0}",
            "{many: 3, found: [{a: 1, b: 2}, {b: 2}, {a: 1, b: [1, 5]}]}");
    }

    /** Keys: of rows their items, of what is missing NOTHING. */
    private static void keys() {
        stand("{a: [{b: 1}, {b: [2, 3]}, {c: 1}, 5]}", "{a: []}", "{a: {b: []}}", "{a: [[1]]}", "{}", "{a: [{b: [[4]]}]}");
        index("['a.b']", "[false]", 0);
        index("['a']", "[false]", 1);
        Docs.asks(house, "{shape: 0, shelf: 0}", "{entries: 9, levels: 2, leaves: 2, nodes: 3, first: true, second: false}");
        Docs.asks(house, "{shape: 1, shelf: 0}", "{entries: 9, levels: 2, leaves: 2, nodes: 3, first: true, second: false}");
        explains("{a.b: null}", 0, 2, 1, 5);
        explains("{a.b: {$in: [1, 2, 3]}}", 0, 2, 3, 1);
        explains("{a.b: {$elem: {$eq: 4}}}", 0, 1, 2, 1);
        explains("{a: null}", 1, 2, 1, 2);
        explains("{a: {$elem: {$eq: 1}}}", 1, 1, 2, 1);
        explains("{a: {$elem: {$lt: 6}}}", 1, 1, 2, 2);
        explains("{a: {$gt: 1}}", 1, 1, 1, 1);
    }

    private static void faults() {
        stand("{a: 1}");
        for (String number : new String[] {"0", "1", "-1", "4", "4294967296L", "-9223372036854775808L"}) {
            Docs.asks(house, "{drop: " + number + ", shelf: 0}", "{fault: 41, place: -1}");
            Docs.asks(house, "{shape: " + number + ", shelf: 0}", "{fault: 41, place: -1}");
        }
        index("['a']", "[true]", 0);
        Docs.asks(house, "{shape: 0, shelf: 1}", "{fault: 41, place: -1}");
        Docs.asks(house, "{shape: 4294967296L, shelf: 0}", "{fault: 41, place: -1}");
        Docs.asks(house, "{drop: 1, shelf: 0}", "{fault: 41, place: -1}");
        Docs.asks(house, "{drop: 0L, shelf: 0}", "{dropped: true}");
        Docs.asks(house, "{drop: 0, shelf: 0}", "{fault: 41, place: -1}");
    }

    public static void main(String[] args) {
        bounds();
        meets();
        many();
        ranks();
        keys();
        faults();
        Docs.end();
    }
}
