/** Promise 3, Part VII: no room, fault 40, which changes nothing. */
public final class Promise3AskRoom {
    private static final String NO_ROOM = "{fault: 40, place: -1}";
    private static DocumentHouse house;

    private static String text(int n) {
        return "'" + "x".repeat(n) + "'";
    }

    private static void insert(String document, String due) {
        Docs.asks(house, "{insert: " + document + ", shelf: 0}", due);
    }

    private static void documents() {
        house = new DocumentHouse();
        for (int i = 1; i <= 200; i++) {
            insert("{}", "{number: " + i + "}");
        }
        insert("{}", NO_ROOM);
        Docs.due("documents", house.state(0), 200);
        Docs.asks(house, "{insert: {}, shelf: 1}", "{number: 1}");
        Docs.asks(house, "{delete: {}, shelf: 0}", "{many: 200}");
        insert("{}", "{number: 201}");
    }

    private static void bytes() {
        // {a: text(n)} has 4 + 3 + 5 + n + 1 bytes
        house = new DocumentHouse();
        for (int i = 1; i <= 20; i++) {
            insert("{a: " + text(1963) + "}", "{number: " + i + "}");
        }
        Docs.due("bytes", house.state(2), 39520);
        insert("{a: " + text(480 - 12) + "}", NO_ROOM);
        insert("{a: " + text(480 - 13 - 5) + "}", "{number: 21}");
        Docs.due("bytes", house.state(2), 39995);
        insert("{b: null}", NO_ROOM);
        insert("{}", "{number: 22}");
        Docs.due("bytes", house.state(2), 40000);
        insert("{}", NO_ROOM);
        Docs.asks(house, "{update: {a: null}, shelf: 0, change: {$set: {b: null}}}", NO_ROOM);
        Docs.due("bytes", house.state(2), 40000);
        String last = "{update: {a: 'w'}, shelf: 0, change: {$set: {a: V}}}";
        String longest = "{update: {a: V}, shelf: 0, change: {$set: {a: 'w'}}}".replace("V", text(480 - 13 - 5));
        Docs.asks(house, longest, "{many: 1, changed: 1}");
        Docs.asks(house, last.replace("V", text(480 - 13 - 4)), NO_ROOM);
        Docs.asks(house, last.replace("V", text(480 - 13 - 5)), "{many: 1, changed: 1}");
        Docs.due("bytes", house.state(2), 40000);
        Docs.due("size", house.size(0, 21), 5);
        // by what there would be at last; and a fault of a change is ahead of no room
        Docs.asks(house, "{update: {}, shelf: 0, change: {$set: {b: " + text(100) + "}}}",
            "{fault: 29, place: " + Docs.placeOf(Docs.bytes("{update: {}, shelf: 0, change: {}}"), "change", 1) + "}");
        Docs.asks(house, "{update: {}, shelf: 0, change: {$unset: {a: 1}, $set: {b: 'y'}}}", "{many: 22, changed: 22}");
        Docs.due("bytes", house.state(2), 22 * 14);
        Docs.asks(house, "{update: {}, shelf: 0, change: {$set: {c: " + text(1790) + "}}}", "{many: 22, changed: 22}");
        Docs.due("bytes", house.state(2), 22 * (14 + 8 + 1790));
        Docs.asks(house, "{update: {}, shelf: 0, change: {$push: {d: 1}}}", NO_ROOM);
        String request = "{update: {}, shelf: 0, change: {$push: {d: 1}, $set: {c: " + text(1780) + "}}}";
        Docs.asks(house, request, "{many: 22, changed: 22}");
        Docs.due("bytes", house.state(2), 22 * (14 + 8 + 1780 + 15));
    }

    private static void updates() {
        // 24 documents that would have more than 40,000 bytes, of which the last has a fault
        house = new DocumentHouse();
        for (int i = 1; i <= 24; i++) {
            insert(i == 24 ? "{a: 1}" : "{a: []}", "{number: " + i + "}");
        }
        String change = "change: {$set: {b: " + text(1800) + "}, $push: {a: 1}}";
        Docs.faultAt(house, "{update: {}, shelf: 0, " + change + "}", 27, "a");
        Docs.asks(house, "{update: {a: []}, shelf: 0, " + change + "}", NO_ROOM);
        Docs.asks(house, "{count: {b: null, a: {$size: 0}}, shelf: 0}", "{many: 23}");
        Docs.asks(house, "{count: {a: 1}, shelf: 0}", "{many: 1}");
        Docs.asks(house, "{delete: {a: 1}, shelf: 0}", "{many: 1}");
        Docs.asks(house, "{delete: {a: []}, shelf: 0}", "{many: 23}");
        Docs.due("documents", house.state(0), 0);
    }

    /** Room is found again for what has gone, however often. */
    private static void again() {
        house = new DocumentHouse();
        Docs.asks(house, "{insert: {a: 'other'}, shelf: 1}", "{number: 1}");
        insert("{k: 1}", "{number: 1}");
        for (int i = 2; i < 60; i++) {
            insert("{k: 2, a: " + text(1900) + "}", "{number: " + i + "}");
            Docs.asks(house, "{delete: {k: 2}, shelf: 0}", "{many: 1}");
        }
        insert("{k: 2, a: 1}", "{number: 60}");
        for (int i = 0; i < 60; i++) {
            Docs.asks(house, "{update: {k: 2}, shelf: 0, change: {$set: {a: " + text(1800 + i) + "}}}",
                "{many: 1, changed: 1}");
        }
        Docs.asks(house, "{find: {}, shelf: 0}",
            "{many: 2, found: [{number: 1, is: {k: 1}}, {number: 60, is: {k: 2, a: " + text(1859) + "}}]}");
        Docs.asks(house, "{find: {}, shelf: 1}", "{many: 1, found: [{number: 1, is: {a: 'other'}}]}");
        Docs.due("bytes", house.state(2), 12 + 20 + 1859);
    }

    private static final String TEN = "[0, 1, 2, 3, 4, 5, 6, 7, 8, 9]";

    private static void entries() {
        house = new DocumentHouse();
        Docs.asks(house, "{index: ['a', 'b'], shelf: 0, down: [false, true]}", "{index: 0}");
        for (int i = 1; i <= 10; i++) {
            insert("{a: " + TEN + ", b: " + TEN + ", k: " + i + "}", "{number: " + i + "}");
        }
        Docs.ask(house, "{shape: 0, shelf: 0}");
        Docs.due("entries", Docs.text(Docs.answer(house)).startsWith("{entries: 1000, "), true);
        insert("{}", NO_ROOM);
        Docs.due("documents", house.state(0), 10);
        Docs.asks(house, "{update: {k: 1}, shelf: 0, change: {$push: {a: 10}}}", NO_ROOM);
        Docs.asks(house, "{update: {k: 1}, shelf: 0, change: {$push: {a: 9L}}}", "{many: 1, changed: 1}");
        // by what there would be at last
        Docs.asks(house, "{update: {}, shelf: 0, change: {$set: {a: " + TEN.replace("0, 1", "10, 11") + "}}}",
            "{many: 10, changed: 10}");
        Docs.ask(house, "{shape: 0, shelf: 0}");
        Docs.due("entries", Docs.text(Docs.answer(house)).startsWith("{entries: 1000, "), true);
        Docs.asks(house, "{drop: 0, shelf: 0}", "{dropped: true}");
        insert("{}", "{number: 11}");
        Docs.asks(house, "{index: ['a', 'b'], shelf: 0, down: [false, true]}", NO_ROOM);
        Docs.due("indexes", house.state(4), 0);
        Docs.asks(house, "{index: ['a', 'k'], shelf: 0, down: [false, true]}", "{index: 0}");
        // one document with too many
        StringBuilder items = new StringBuilder("[0");
        for (int i = 1; i < 32; i++) {
            items.append(", ").append(i);
        }
        Docs.asks(house, "{delete: {}, shelf: 0}", "{many: 11}");
        Docs.asks(house, "{index: ['b', 'c'], shelf: 0, down: [false, false]}", "{index: 1}");
        insert("{b: " + items + "], c: " + items + "]}", NO_ROOM);
        insert("{b: " + items + "], c: " + items.substring(0, items.length() - 4) + "]}", "{number: 12}");
        Docs.ask(house, "{shape: 1, shelf: 0}");
        Docs.due("entries", Docs.text(Docs.answer(house)).startsWith("{entries: 992, "), true);
    }

    private static void keys() {
        house = new DocumentHouse();
        insert("{a: " + text(60) + ", b: " + text(59) + "}", "{number: 1}");
        Docs.asks(house, "{index: ['a'], shelf: 0, down: [false]}", NO_ROOM);
        Docs.asks(house, "{index: ['b', 'a'], shelf: 0, down: [false, false]}", NO_ROOM);
        Docs.due("indexes", house.state(4), 0);
        Docs.asks(house, "{index: ['b'], shelf: 0, down: [false]}", "{index: 0}");
        insert("{b: " + text(60) + "}", NO_ROOM);
        insert("{b: [1, " + text(60) + "]}", NO_ROOM);
        insert("{b: {b: " + text(60) + "}}", NO_ROOM);
        insert("{b: {b: " + text(51) + "}}", "{number: 2}");
        insert("{b: {b: " + text(52) + "}}", NO_ROOM);
        // a row is no key, its items are: also one that is the SAME as another one
        insert("{b: [" + text(59) + ", " + text(58) + "]}", "{number: 3}");
        insert("{b: [[" + text(59) + "]]}", NO_ROOM);
        insert("{b: [[1, 2, 3, 4, 5, 6, 7, 8]]}", "{number: 4}");
        insert("{b: [[1, 2, 3, 4, 5, 6, 7], [1, 2, 3, 4, 5, 6L, 7L]]}", "{number: 5}");
        insert("{b: [[1, 2, 3, 4, 5, 6, 7], [1, 2, 3, 4, 5L, 6L, 7L]]}", NO_ROOM);
        Docs.asks(house, "{update: {a: {$exists: true}}, shelf: 0, change: {$set: {b: " + text(60) + "}}}", NO_ROOM);
        Docs.asks(house, "{update: {a: {$exists: true}}, shelf: 0, change: {$push: {c: " + text(60) + "}}}",
            "{many: 1, changed: 1}");
        Docs.asks(house, "{update: {a: {$exists: true}}, shelf: 0, change: {$set: {b: [" + text(60) + "]}}}", NO_ROOM);
        Docs.asks(house, "{count: {b: " + text(59) + "}, shelf: 0}", "{many: 2}");
        Docs.asks(house, "{insert: {b: " + text(60) + "}, shelf: 1}", "{number: 1}");
        // a fault of a change is ahead of no room
        Docs.faultAt(house, "{update: {}, shelf: 0, change: {$set: {b: " + text(60) + "}, $inc: {a: 1}}}", 27, "a");
    }

    private static void answers() {
        house = new DocumentHouse();
        // {many, found: [..]} has 4 + 10 + 7 + 5 + 1 bytes; an item of find 3 + 4 + 12 + 4 + the document + 1
        for (int i = 1; i <= 4; i++) {
            insert("{a: " + text(1900) + "}", "{number: " + i + "}");
        }
        int left = 8000 - 27 - 4 * (24 + 1913);
        insert("{b: " + text(left - 24 - 13) + "}", "{number: 5}");
        Docs.due("a find", Docs.feed(house, Docs.bytes("{find: {}, shelf: 0}")) > 0, true);
        Docs.due("bytes of a find", house.ask(Docs.bytes("{find: {}, shelf: 0}").length), 8000);
        Docs.asks(house, "{update: {b: {$exists: true}}, shelf: 0, change: {$set: {b: " + text(left - 24 - 12) + "}}}",
            "{many: 1, changed: 1}");
        Docs.asks(house, "{find: {}, shelf: 0}", NO_ROOM);
        Docs.asks(house, "{count: {}, shelf: 0}", "{many: 5}");
        // an item of a pipeline's has 3 + the document
        int free = 8000 - 27 - 4 * (3 + 1913);
        String project = "{update: {b: {$exists: true}}, shelf: 0, change: {$set: {b: V}}}";
        Docs.asks(house, project.replace("V", text(free - 3 - 13)), "{many: 1, changed: 1}");
        byte[] request = Docs.bytes("{pipeline: [], shelf: 0}");
        Docs.feed(house, request);
        Docs.due("bytes of a pipeline", house.ask(request.length), 8000);
        Docs.due("answer(7999)", house.answer(7999), 0);
        Docs.due("answer(8000)", house.answer(8000), -1);
        Docs.asks(house, project.replace("V", text(free - 3 - 12)), "{many: 1, changed: 1}");
        Docs.asks(house, "{pipeline: [], shelf: 0}", NO_ROOM);
        // it is looked at last
        Docs.asks(house, "{pipeline: [{$limit: -1}], shelf: 0}", "{fault: 32, place: 18}");
        Docs.asks(house, "{pipeline: [{$limit: 3}, {$project: {b: true}}], shelf: 0}", "{many: 3, found: [{}, {}, {}]}");
    }

    private static void faults() {
        // a fault of the form is ahead of no room
        house = new DocumentHouse();
        for (int i = 0; i < 4; i++) {
            Docs.asks(house, "{index: ['a'], shelf: 0, down: [false]}", "{index: " + i + "}");
        }
        Docs.asks(house, "{index: ['a'], shelf: 0, down: [false]}", NO_ROOM);
        Docs.faultAt(house, "{index: ['a'], shelf: 0, down: []}", 9, "down");
        Docs.due("indexes", house.state(4), 4);
        Docs.asks(house, "{drop: 2, shelf: 0}", "{dropped: true}");
        Docs.asks(house, "{index: ['a'], shelf: 0, down: [false]}", "{index: 2}");
    }

    public static void main(String[] args) {
        documents();
        bytes();
        updates();
        again();
        entries();
        keys();
        answers();
        faults();
        Docs.end();
    }
}
