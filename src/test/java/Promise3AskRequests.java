/** Promise 3, Part VII: what is no request, fault 9, and what each request answers at its plainest. */
public final class Promise3AskRequests {
    private static final DocumentHouse HOUSE = new DocumentHouse();

    private static void noRequest(String request, String name) {
        Docs.faultAt(HOUSE, request, 9, name);
    }

    /** No request, at the last byte of it, where an element is missing. */
    private static void lacks(String request) {
        Docs.asks(HOUSE, request, "{fault: 9, place: " + (Docs.bytes(request).length - 1) + "}");
    }

    private static void heads() {
        lacks("{}");
        noRequest("{foo: {}, shelf: 0}", "foo");
        noRequest("{shelf: 0}", "shelf");
        noRequest("{shelf: 0, insert: {}}", "shelf");
        noRequest("{Insert: {}, shelf: 0}", "Insert");
        noRequest("{inser: {}, shelf: 0}", "inser");
        noRequest("{inserts: {}, shelf: 0}", "inserts");
        noRequest("{'': {}, shelf: 0}", "");
        for (String name : new String[] {"insert", "find", "count", "delete", "explain", "update"}) {
            for (String value : new String[] {"1", "1L", "'x'", "null", "true", "[]"}) {
                noRequest("{" + name + ": " + value + ", shelf: 0}", name);
            }
        }
        for (String name : new String[] {"drop", "shape"}) {
            for (String value : new String[] {"{}", "'x'", "null", "true", "[]"}) {
                noRequest("{" + name + ": " + value + ", shelf: 0}", name);
            }
        }
        for (String value : new String[] {"{}", "1", "'x'", "null", "true"}) {
            noRequest("{pipeline: " + value + ", shelf: 0}", "pipeline");
            noRequest("{index: " + value + ", shelf: 0, down: [true]}", "index");
        }
        noRequest("{pipeline: [1], shelf: 0}", "0");
        noRequest("{pipeline: [{}, [], 5], shelf: 0}", "1");
        noRequest("{pipeline: [{$limit: 1}, {$limit: -1}, 5], shelf: 0}", "2");
    }

    private static void shelves() {
        lacks("{insert: {}}");
        lacks("{find: {}}");
        lacks("{pipeline: []}");
        lacks("{drop: 0}");
        for (String value : new String[] {"2", "-1", "2L", "4294967296L", "true", "null", "'0'", "{}", "[0]"}) {
            noRequest("{insert: {}, shelf: " + value + "}", "shelf");
        }
        noRequest("{insert: {}, Shelf: 0}", "Shelf");
        noRequest("{insert: {}, shel: 0}", "shel");
        noRequest("{insert: {}, x: 0, shelf: 0}", "x");
        noRequest("{insert: {}, shelf: 0, x: 0}", "x");
        noRequest("{insert: {}, shelf: 0, change: {}}", "change");
        noRequest("{find: {}, shelf: 0, x: 0, y: 1}", "x");
        noRequest("{shape: 0, shelf: 0, down: []}", "down");
        // the head is wrong ahead of the shelf
        noRequest("{insert: 1, shelf: 2}", "insert");
        noRequest("{insert: 1}", "insert");
        noRequest("{insert: {}, shelf: 2, x: 1}", "shelf");
    }

    private static void changes() {
        lacks("{update: {}, shelf: 0}");
        lacks("{update: {}}");
        for (String value : new String[] {"1", "[]", "null", "'x'"}) {
            noRequest("{update: {}, shelf: 0, change: " + value + "}", "change");
        }
        noRequest("{update: {}, shelf: 0, changes: {}}", "changes");
        noRequest("{update: {}, shelf: 0, x: 1, change: {}}", "x");
        noRequest("{update: {}, change: {}, shelf: 0}", "change");
        noRequest("{update: {}, shelf: 0, change: {}, x: 1}", "x");
        // fault 9 is ahead of a filter's and a change's
        noRequest("{update: {$foo: 1}, shelf: 0, change: {$foo: {}}, x: 1}", "x");
        Docs.asks(HOUSE, "{update: {}, shelf: 0, change: {}}", "{many: 0, changed: 0}");
    }

    private static void indexes() {
        noRequest("{index: [], shelf: 0, down: []}", "index");
        noRequest("{index: [1], shelf: 0, down: [true]}", "0");
        noRequest("{index: ['a', {}], shelf: 0, down: [true, true]}", "1");
        noRequest("{index: ['a', 'b', 'c'], shelf: 0, down: [true, true, true]}", "2");
        noRequest("{index: ['a', 'a'], shelf: 0, down: [true, true]}", "1");
        noRequest("{index: ['a', 'a', 'b'], shelf: 0, down: [true, true, true]}", "1");
        for (String path : new String[] {"", ".", "a.", ".a", "a..b", "$a", "a.$b", "a.b.c.d.e.f.g.h.i", "a\0b"}) {
            noRequest("{index: ['" + path + "'], shelf: 0, down: [true]}", "0");
            noRequest("{index: ['x', '" + path + "'], shelf: 0, down: [true, true]}", "1");
        }
        lacks("{index: ['a'], shelf: 0}");
        lacks("{index: ['a']}");
        noRequest("{index: ['a'], down: [true], shelf: 0}", "down");
        noRequest("{index: ['a'], shelf: 0, up: [true]}", "up");
        for (String value : new String[] {"1", "{}", "true", "[]", "[true, true]"}) {
            noRequest("{index: ['a'], shelf: 0, down: " + value + "}", "down");
        }
        noRequest("{index: ['a', 'b'], shelf: 0, down: [true]}", "down");
        Docs.faultAt(HOUSE, "{index: ['a'], shelf: 0, down: [1]}", 9, "0", 2);
        Docs.faultAt(HOUSE, "{index: ['a', 'b'], shelf: 0, down: [true, null]}", 9, "1", 2);
        Docs.faultAt(HOUSE, "{index: ['a', 'b'], shelf: 0, down: [0, null]}", 9, "0", 2);
        noRequest("{index: ['a'], shelf: 0, down: [true], x: 1}", "x");
        Docs.due("indexes", HOUSE.state(4), 0);
        Docs.asks(HOUSE, "{index: ['a.b.c.d.e.f.g.h', 'a'], shelf: 0, down: [false, true]}", "{index: 0}");
        Docs.asks(HOUSE, "{drop: 0L, shelf: 0}", "{dropped: true}");
    }

    private static void answers() {
        DocumentHouse house = new DocumentHouse();
        Docs.asks(house, "{insert: {a: 1}, shelf: 0}", "{number: 1}");
        Docs.asks(house, "{insert: {a: 2}, shelf: 0L}", "{number: 2}");
        Docs.asks(house, "{insert: {a: 3}, shelf: 1}", "{number: 1}");
        Docs.asks(house, "{find: {}, shelf: 0}",
            "{many: 2, found: [{number: 1, is: {a: 1}}, {number: 2, is: {a: 2}}]}");
        Docs.asks(house, "{find: {a: 7}, shelf: 0}", "{many: 0, found: []}");
        Docs.asks(house, "{count: {}, shelf: 0}", "{many: 2}");
        Docs.asks(house, "{count: {a: 3}, shelf: 1L}", "{many: 1}");
        Docs.asks(house, "{update: {a: 2}, shelf: 0, change: {$set: {b: 5}}}", "{many: 1, changed: 1}");
        Docs.asks(house, "{find: {a: 2}, shelf: 0}", "{many: 1, found: [{number: 2, is: {a: 2, b: 5}}]}");
        Docs.asks(house, "{delete: {a: 1}, shelf: 0}", "{many: 1}");
        Docs.asks(house, "{delete: {a: 1}, shelf: 0}", "{many: 0}");
        Docs.asks(house, "{find: {}, shelf: 0}", "{many: 1, found: [{number: 2, is: {a: 2, b: 5}}]}");
        Docs.asks(house, "{pipeline: [], shelf: 0}", "{many: 1, found: [{a: 2, b: 5}]}");
        Docs.asks(house, "{pipeline: [], shelf: 1}", "{many: 1, found: [{a: 3}]}");
        Docs.asks(house, "{explain: {}, shelf: 0}", "{index: -1, rank: 0, ranges: 1, looked: 1}");
        Docs.asks(house, "{index: ['a'], shelf: 0, down: [false]}", "{index: 0}");
        Docs.asks(house, "{shape: 0, shelf: 0}",
            "{entries: 1, levels: 1, leaves: 1, nodes: 1, first: false, second: false}");
        Docs.asks(house, "{drop: 0, shelf: 0}", "{dropped: true}");
        Docs.asks(house, "{shape: 0, shelf: 0}", "{fault: 41, place: -1}");
        Docs.asks(house, "{insert: {}, shelf: 0}", "{number: 3}");
        // numbers of an answer are of kind 16, which the text above tells by no L; $match with a whole filter
        Docs.asks(house, "{pipeline: [{$match: {a: 2}}], shelf: 0}", "{many: 1, found: [{a: 2, b: 5}]}");
    }

    public static void main(String[] args) {
        heads();
        shelves();
        changes();
        indexes();
        answers();
        Docs.end();
    }
}
