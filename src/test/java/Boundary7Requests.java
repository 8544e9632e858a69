/** Promise 3, Part VII, sentence by sentence: requests, what is none, and what has no room. */
public final class Boundary7Requests {
    private static final String NO_ROOM = "{fault: 40, place: -1}";
    private static DocumentHouse house = new DocumentHouse();

    private static void asks(String request, String due) {
        Docs.asks(house, request, due);
    }

    private static void insert(String document, String due) {
        asks("{insert: " + document + ", shelf: 0}", due);
    }

    private static String text(int n) {
        return "'" + "x".repeat(n) + "'";
    }

    /** Each request in its plainest form: its elements in order. */
    private static final String[][] REQUESTS = {{"insert: {}", "shelf: 0"}, {"find: {}", "shelf: 0"}, {"count: {}", "shelf: 0"},
        {"update: {}", "shelf: 0", "change: {}"}, {"delete: {}", "shelf: 0"}, {"index: ['a']", "shelf: 0", "down: [true]"},
        {"drop: 0", "shelf: 0"}, {"pipeline: []", "shelf: 0"}, {"explain: {}", "shelf: 0"}, {"shape: 0", "shelf: 0"}};

    private static String join(String[] elements, int n) {
        return "{" + String.join(", ", java.util.Arrays.copyOf(elements, n)) + "}";
    }

    private static void noRequest(String request, int place) {
        house = new DocumentHouse();
        asks(request, "{fault: 9, place: " + place + "}");
        asks("{count: {}, shelf: 0}", "{many: 0}");
        Docs.due("indexes", house.state(4), 0);
    }

    private static void noRequest(String request, String name) {
        noRequest(request, Docs.placeOf(Docs.bytes(request), name, 1));
    }

    /** "where one is missing, the place of the request's last byte"; "with these elements in this order, .. without others" */
    private static void elements() {
        for (String[] elements : REQUESTS) {
            int n = elements.length;
            for (int i = 0; i < n; i++) {
                String request = join(elements, i);
                noRequest(request, Docs.bytes(request).length - 1);
                String name = elements[i].substring(0, elements[i].indexOf(':'));
                String value = elements[i].substring(name.length());
                // another name there, the right one with more or fewer letters, another element ahead of it
                for (String wrong : new String[] {"q", "''", name + "s", name.substring(1), name.toUpperCase()}) {
                    String[] others = elements.clone();
                    others[i] = wrong + value;
                    noRequest(join(others, n), wrong.replace("'", ""));
                }
                String[] others = java.util.Arrays.copyOf(elements, n + 1);
                System.arraycopy(elements, i, others, i + 1, n - i);
                others[i] = "q: 1";
                noRequest(join(others, n + 1), "q");
                if (i > 0) {
                    String[] turned = elements.clone();
                    turned[i] = elements[i - 1];
                    turned[i - 1] = elements[i];
                    noRequest(join(turned, n), name);
                }
            }
            String more = join(elements, n).replaceFirst("}$", ", q: 1, r: 1}");
            noRequest(more, "q");
            noRequest(join(elements, n).replaceFirst("}$", ", '': 1}"), "");
        }
    }

    /** "SHELF being an element shelf, a number 0 or 1 (all numbers here of either kind)" */
    private static void shelves() {
        for (String[] elements : REQUESTS) {
            for (String shelf : new String[] {"2", "-1", "2L", "-1L", "256", "4294967296L", "4294967297L", "-9223372036854775808L",
                "-2147483648", "true", "false", "null", "'0'", "''", "{}", "[0]", "[]"}) {
                String[] others = elements.clone();
                others[1] = "shelf: " + shelf;
                noRequest(join(others, others.length), "shelf");
            }
        }
        house = new DocumentHouse();
        for (String kind : new String[] {"", "L"}) {
            int given = kind.isEmpty() ? 1 : 2;
            asks("{insert: {a: 1}, shelf: 0" + kind + "}", "{number: " + given + "}");
            asks("{insert: {a: 1}, shelf: 1" + kind + "}", "{number: " + given + "}");
            asks("{index: ['a'], shelf: 1" + kind + ", down: [true]}", "{index: 0}");
            asks("{shape: 0" + kind + ", shelf: 1" + kind + "}",
                "{entries: " + given + ", levels: 1, leaves: 1, nodes: 1, first: false, second: false}");
            asks("{drop: 0" + kind + ", shelf: 1" + kind + "}", "{dropped: true}");
        }
    }

    /** "A REQUEST .. element (..) whose .. value isn't as said" */
    private static void values() {
        String[] all = {"1", "1L", "'text'", "null", "true", "{}", "[]"};
        for (String[] elements : REQUESTS) {
            String name = elements[0].substring(0, elements[0].indexOf(':'));
            String right = name.equals("drop") || name.equals("shape") ? "1 1L" : name.equals("pipeline") ? "[]"
                : name.equals("index") ? "" : "{}";
            for (String value : all) {
                if (!(" " + right + " ").contains(" " + value + " ")) {
                    String[] others = elements.clone();
                    others[0] = name + ": " + value;
                    noRequest(join(others, others.length), name);
                    // the first element is looked at ahead of those that are wrong behind it
                    others[1] = "shelf: 7";
                    noRequest(join(others, others.length), name);
                    noRequest(join(others, 1), name);
                }
            }
        }
        for (String value : all) {
            if (!value.equals("{}")) {
                noRequest("{update: {}, shelf: 0, change: " + value + "}", "change");
            }
            noRequest("{index: ['a'], shelf: 0, down: " + value + "}", "down");
            if (!value.equals("{}")) {
                noRequest("{pipeline: [" + value + "], shelf: 0}", "0");
                noRequest("{pipeline: [{}, {}, " + value + ", 1], shelf: 0}", "2");
            }
            if (!value.equals("'text'")) {
                noRequest("{index: [" + value + "], shelf: 0, down: [true]}", "0");
                noRequest("{index: ['a', " + value + ", 1], shelf: 0, down: [true, true]}", "1");
            }
            noRequest("{index: ['a', 'b', " + value + "], shelf: 0, down: [true, true, true]}", "2");
            if (!value.equals("true")) {
                String request = "{index: ['a', 'b'], shelf: 0, down: [true, " + value + "]}";
                noRequest(request, Docs.placeOf(Docs.bytes(request), "1", 2));
                request = "{index: ['a', 'b'], shelf: 0, down: [" + value + ", 1]}";
                noRequest(request, Docs.placeOf(Docs.bytes(request), "0", 2));
            }
        }
    }

    /** "of a row that has to have items, or as many as another one, the row's element; .. (the second one another one; a third ..)" */
    private static void paths() {
        noRequest("{index: [], shelf: 0, down: []}", "index");
        noRequest("{index: [], shelf: 0, down: [true]}", "index");
        for (String down : new String[] {"[]", "[true, true]", "[true, true, true]", "[1, 1]"}) {
            noRequest("{index: ['a'], shelf: 0, down: " + down + "}", "down");
        }
        for (String down : new String[] {"[]", "[true]", "[true, true, true]", "[1]"}) {
            noRequest("{index: ['a', 'b'], shelf: 0, down: " + down + "}", "down");
        }
        noRequest("{index: ['a', 'a'], shelf: 0, down: [true, true]}", "1");
        noRequest("{index: ['a.b', 'a.b', 'c'], shelf: 0, down: [true, true]}", "1");
        for (String second : new String[] {"b", "aa", "a.a", "A", "a0", "\u00e9", "0"}) {
            house = new DocumentHouse();
            asks("{index: ['a', '" + second + "'], shelf: 0, down: [true, false]}", "{index: 0}");
            asks("{index: ['" + second + "', 'a'], shelf: 0, down: [true, false]}", "{index: 1}");
        }
    }

    /** "the first one 1, each later one one more than ever was given there" */
    private static void numbers() {
        house = new DocumentHouse();
        insert("{a: 1}", "{number: 1}");
        insert("{a: 2}", "{number: 2}");
        asks("{insert: {}, shelf: 1}", "{number: 1}");
        asks("{delete: {a: 2}, shelf: 0}", "{many: 1}");
        insert("{a: 3}", "{number: 3}");
        asks("{delete: {}, shelf: 0}", "{many: 2}");
        insert("{a: 4}", "{number: 4}");
        // what can't be done gives no NUMBER
        asks("{index: ['a'], shelf: 0, down: [false]}", "{index: 0}");
        insert("{a: " + text(60) + "}", NO_ROOM);
        asks("{insert: {a: 1}, shelf: 2}", "{fault: 9, place: " + Docs.placeOf(Docs.bytes("{insert: {a: 1}, shelf: 2}"), "shelf", 1) + "}");
        asks("{insert: {a: 1}, shelf: 0, x: 1}", "{fault: 9, place: "
            + Docs.placeOf(Docs.bytes("{insert: {a: 1}, shelf: 0, x: 1}"), "x", 1) + "}");
        insert("{a: 5}", "{number: 5}");
        asks("{update: {}, shelf: 0, change: {$set: {a: 6}}}", "{many: 2, changed: 2}");
        Docs.due("NUMBER of the first", house.number(0, 0), 4);
        Docs.due("NUMBER of the second", house.number(0, 1), 5);
        insert("{a: 7}", "{number: 6}");
        asks("{insert: {}, shelf: 1}", "{number: 2}");
    }

    /** "at most 200 .. in all" documents of a shelf */
    private static void twoHundredDocuments() {
        house = new DocumentHouse();
        for (int i = 1; i <= 200; i++) {
            insert("{n: " + i + "}", "{number: " + i + "}");
        }
        insert("{}", NO_ROOM);
        insert("{n: 1}", NO_ROOM);
        Docs.due("documents", house.state(0), 200);
        Docs.due("bytes", house.state(2), 2400);
        Docs.due("NUMBER of the last", house.number(0, 199), 200);
        Docs.due("size of the last", house.size(0, 199), 12);
        Docs.due("NUMBER of none", house.number(0, 200), 0);
        asks("{count: {n: {$gt: 0}}, shelf: 0}", "{many: 200}");
        asks("{update: {}, shelf: 0, change: {$inc: {n: 1000}}}", "{many: 200, changed: 200}");
        asks("{count: {n: {$gt: 1199}}, shelf: 0}", "{many: 1}");
        asks("{delete: {n: 1100}, shelf: 0}", "{many: 1}");
        insert("{}", "{number: 201}");
        insert("{}", NO_ROOM);
        asks("{delete: {}, shelf: 0}", "{many: 200}");
        Docs.due("documents", house.state(0), 0);
        insert("{}", "{number: 202}");
    }

    /** Shelf 0 has 40 documents {k, r, a} of 1,000 bytes each: 5 and 7, 8 with an empty row, 8 and a text. */
    private static void fill() {
        house = new DocumentHouse();
        for (int i = 1; i <= 40; i++) {
            insert("{k: " + i + ", r: [], a: ''}", "{number: " + i + "}");
        }
        asks("{update: {}, shelf: 0, change: {$set: {a: " + text(972) + "}}}", "{many: 40, changed: 40}");
        Docs.due("bytes", house.state(2), 40000);
        Docs.due("size", house.size(0, 39), 1000);
    }

    /** "with at most 40,000 bytes in all" */
    private static void fortyThousandBytes() {
        fill();
        insert("{}", NO_ROOM);
        for (String change : new String[] {"$set: {a: " + text(973) + "}", "$set: {z: null}", "$push: {r: null}"}) {
            asks("{update: {}, shelf: 0, change: {" + change + "}}", NO_ROOM);
            asks("{update: {k: 1}, shelf: 0, change: {" + change + "}}", NO_ROOM);
            asks("{update: {k: 40}, shelf: 0, change: {" + change + "}}", NO_ROOM);
        }
        Docs.due("bytes", house.state(2), 40000);
        Docs.due("size", house.size(0, 39), 1000);
        // no longer than they were
        asks("{update: {}, shelf: 0, change: {$set: {a: " + text(972).replace('x', 'y') + "}}}", "{many: 40, changed: 40}");
        asks("{update: {}, shelf: 0, change: {$inc: {k: 1000}}}", "{many: 40, changed: 40}");
        // the other shelf has room of its own
        asks("{insert: {a: " + text(1900) + "}, shelf: 1}", "{number: 1}");
        // one byte fewer of one document, one more of another one
        asks("{update: {k: 1040}, shelf: 0, change: {$set: {a: " + text(971) + "}}}", "{many: 1, changed: 1}");
        asks("{update: {k: 1001}, shelf: 0, change: {$set: {a: " + text(974) + "}}}", NO_ROOM);
        asks("{update: {k: 1001}, shelf: 0, change: {$set: {a: " + text(973) + "}}}", "{many: 1, changed: 1}");
        Docs.due("bytes", house.state(2), 40000);
        Docs.due("size of the first", house.size(0, 0), 1001);
        Docs.due("size of the last", house.size(0, 39), 999);
        asks("{delete: {}, shelf: 0}", "{many: 40}");
        Docs.due("bytes", house.state(2), 0);
        insert("{}", "{number: 41}");
    }

    /** It is by what there would be at last: the first half gets longer, the second one shorter by as much or a byte less. */
    private static void bytesAtLast() {
        for (int more = 0; more < 2; more++) {
            fill();
            // the second half has the item already, which has 3 + 5 + 492 bytes, in place of 500 of a
            asks("{update: {k: {$gt: 20}}, shelf: 0, change: {$set: {a: " + text(472) + ", r: [" + text(492) + "]}}}",
                "{many: 20, changed: 20}");
            asks("{update: {k: {$gt: 20}}, shelf: 0, change: {$set: {b: ''}, $unset: {a: 1}}}", "{many: 20, changed: 20}");
            // 8 bytes of b and its letters, to be gone
            asks("{update: {k: {$gt: 20}}, shelf: 0, change: {$set: {b: " + text(472) + "}}}", "{many: 20, changed: 20}");
            Docs.due("bytes", house.state(2), 40000);
            asks("{update: {k: {$lte: 20}}, shelf: 0, change: {$set: {a: " + text(952 + more) + "}}}", "{many: 20, changed: 20}");
            // 20 times 500 bytes come, 480 of each of the others go, and 20 have gone from each of the first already
            asks("{update: {}, shelf: 0, change: {$addToSet: {r: " + text(492) + "}, $unset: {b: 1}}}",
                more == 0 ? "{many: 40, changed: 40}" : NO_ROOM);
            Docs.due("bytes", house.state(2), more == 0 ? 40000 : 40000 - 20 * 20 + 20);
        }
    }

    /** An insert of just as many bytes as there is room for, and of one more. */
    private static void bytesOfAnInsert() {
        for (int letters : new int[] {0, 1, 21, 22, 23, 26, 27, 28, 29, 500}) {
            fill();
            asks("{delete: {k: 40}, shelf: 0}", "{many: 1}");
            insert("{a: " + text(960 - 13) + "}", "{number: 41}");
            // {a: text} has 13 bytes and the letters, of the 40 that are left
            boolean fits = letters <= 27;
            insert("{a: " + text(letters) + "}", fits ? "{number: 42}" : NO_ROOM);
            Docs.due("bytes", house.state(2), 39960 + (fits ? 13 + letters : 0));
            insert("{}", !fits ? "{number: 42}" : letters <= 22 ? "{number: 43}" : NO_ROOM);
        }
    }

    private static final String TEN = "[0, 1, 2, 3, 4, 5, 6, 7, 8, 9]";

    private static void entries(int index, int entries) {
        Docs.ask(house, "{shape: " + index + ", shelf: 0}");
        Docs.due("entries", Docs.text(Docs.answer(house)).startsWith("{entries: " + entries + ", "), true);
    }

    /** "an index more than 1,000 entries (by what there would be at last)" */
    private static void oneThousandEntries() {
        house = new DocumentHouse();
        for (int i = 1; i <= 10; i++) {
            insert("{a: " + TEN + ", b: " + TEN + ", k: " + i + "}", "{number: " + i + "}");
        }
        asks("{index: ['a', 'b'], shelf: 0, down: [false, false]}", "{index: 0}");
        entries(0, 1000);
        insert("{}", NO_ROOM);
        insert("{a: 1}", NO_ROOM);
        asks("{update: {k: 10}, shelf: 0, change: {$push: {b: 'x'}}}", NO_ROOM);
        asks("{update: {k: 10}, shelf: 0, change: {$push: {b: 9L}}}", "{many: 1, changed: 1}");
        entries(0, 1000);
        // an update of which some documents have more entries at last, others fewer
        asks("{update: {}, shelf: 0, change: {$set: {a: " + TEN.replace("9", "'x'") + "}}}", "{many: 10, changed: 10}");
        entries(0, 1000);
        asks("{update: {k: 1}, shelf: 0, change: {$pull: {a: 'x'}}}", "{many: 1, changed: 1}");
        entries(0, 990);
        for (int i = 11; i <= 20; i++) {
            insert("{}", "{number: " + i + "}");
        }
        entries(0, 1000);
        insert("{}", NO_ROOM);
        Docs.due("documents", house.state(0), 20);
        // an index that comes
        asks("{drop: 0, shelf: 0}", "{dropped: true}");
        asks("{index: ['b', 'a'], shelf: 0, down: [true, false]}", "{index: 0}");
        entries(0, 1000);
        asks("{drop: 0, shelf: 0}", "{dropped: true}");
        insert("{}", "{number: 21}");
        asks("{index: ['b', 'a'], shelf: 0, down: [true, false]}", NO_ROOM);
        Docs.due("indexes", house.state(4), 0);
        asks("{shape: 0, shelf: 0}", "{fault: 41, place: -1}");
        asks("{delete: {k: null}, shelf: 0}", "{many: 11}");
        asks("{index: ['b', 'a'], shelf: 0, down: [true, false]}", "{index: 0}");
        entries(0, 990);
        // one index of two has no room: the other one stays as it was, too
        asks("{index: ['k'], shelf: 0, down: [true]}", "{index: 1}");
        insert("{a: " + TEN + ", b: [0, 1], k: 11}", NO_ROOM);
        entries(1, 10);
        entries(0, 990);
        asks("{update: {k: {$gt: 8}}, shelf: 0, change: {$push: {a: true}, $set: {k: [1, 2]}}}", NO_ROOM);
        asks("{shape: 1, shelf: 0}", "{entries: 10, levels: 2, leaves: 2, nodes: 3, first: false, second: false}");
    }

    /** "a key whose value (its bytes, as in Part I) has more than 64 bytes (also one that is the SAME as another one)" */
    private static void longKeys() {
        // a text has 5 bytes beside its letters, {b: text} 13, a row of one text 13 too
        String[][] values = {{text(59), text(60)}, {"{b: " + text(51) + "}", "{b: " + text(52) + "}"},
            {"[[" + text(51) + "]]", "[[" + text(52) + "]]"}, {"[1, " + text(59) + "]", "[1, " + text(60) + "]"},
            {"[[1, 2, 3, 4, 5, 6, 7, 8]]", "[[1, 2, 3, 4, 5, 6, 7, 8L]]"},
            {"[{b: " + text(51) + "}, 2]", "[{b: " + text(52) + "}, 2]"},
            {"[[1, 2, 3, 4, 5, 6, 7], [1L, 2L, 3, 4, 5, 6, 7]]", "[[1, 2, 3, 4, 5, 6, 7], [1L, 2L, 3L, 4, 5, 6, 7]]"}};
        for (String[] two : values) {
            for (int kind = 0; kind < 2; kind++) {
                String index = kind == 0 ? "{index: ['a'], shelf: 0, down: [true]}" : "{index: ['z', 'a'], shelf: 0, down: [true, true]}";
                house = new DocumentHouse();
                asks(index, "{index: 0}");
                insert("{a: " + two[0] + "}", "{number: 1}");
                insert("{a: " + two[1] + "}", NO_ROOM);
                asks("{update: {}, shelf: 0, change: {$set: {a: " + two[1] + "}}}", NO_ROOM);
                asks("{update: {}, shelf: 0, change: {$push: {c: " + two[1] + "}}}", "{many: 1, changed: 1}");
                Docs.stand(house, 0, "{a: " + two[0] + ", c: [" + two[1] + "]}");
                asks("{drop: 0, shelf: 0}", "{dropped: true}");
                asks(index, "{index: 0}");
                asks("{drop: 0, shelf: 0}", "{dropped: true}");
                asks("{update: {}, shelf: 0, change: {$set: {a: " + two[1] + "}}}", "{many: 1, changed: 1}");
                asks(index, NO_ROOM);
                Docs.due("indexes", house.state(4), 0);
                // of a document that has gone no key is left
                insert("{a: " + two[0] + "}", "{number: 2}");
                asks("{delete: {c: null}, shelf: 0}", "{many: 1}");
                asks("{delete: {}, shelf: 0}", "{many: 1}");
                asks(index, "{index: 0}");
                insert("{}", "{number: 3}");
            }
        }
    }

    /** Nothing is left of documents that stood behind the last one: not for an index that comes, not for an update. */
    private static void whatHasGone() {
        house = new DocumentHouse();
        insert("{k: 1, a: 1}", "{number: 1}");
        insert("{k: 2, a: " + text(100) + "}", "{number: 2}");
        asks("{update: {}, shelf: 0, change: {$set: {z: 1}}}", "{many: 2, changed: 2}");
        asks("{delete: {k: 2}, shelf: 0}", "{many: 1}");
        asks("{update: {}, shelf: 0, change: {$set: {z: 2}}}", "{many: 1, changed: 1}");
        Docs.stand(house, 0, "{k: 1, a: 1, z: 2}");
        asks("{index: ['a'], shelf: 0, down: [false]}", "{index: 0}");
        entries(0, 1);
        asks("{update: {}, shelf: 0, change: {$set: {z: 3}}}", "{many: 1, changed: 1}");
        entries(0, 1);
        asks("{explain: {a: {$gt: ''}}, shelf: 0}", "{index: 0, rank: 1, ranges: 1, looked: 0}");
        asks("{delete: {}, shelf: 0}", "{many: 1}");
        entries(0, 0);
        asks("{pipeline: [], shelf: 0}", "{many: 0, found: []}");
        asks("{update: {}, shelf: 0, change: {$set: {z: 4}}}", "{many: 0, changed: 0}");
        Docs.stand(house, 0);
    }

    /** "indexes 0 to 3": "the least index that there isn't yet comes"; "40: .. there are four indexes"; "41: there is no such index" */
    private static void fourIndexes() {
        house = new DocumentHouse();
        for (int i = 0; i < 4; i++) {
            for (int k = 0; k < 6; k++) {
                asks("{drop: " + (k == 5 ? -1 : k) + ", shelf: 1}", "{fault: 41, place: -1}");
            }
            asks("{shape: " + i + ", shelf: 0}", "{fault: 41, place: -1}");
            asks("{index: ['a'], shelf: 0, down: [false]}", "{index: " + i + "}");
            asks("{shape: " + i + ", shelf: 0}", "{entries: 0, levels: 1, leaves: 1, nodes: 1, first: false, second: false}");
            Docs.due("indexes", house.state(4), i + 1);
        }
        asks("{index: ['b'], shelf: 0, down: [false]}", NO_ROOM);
        for (String none : new String[] {"4", "-1", "4L", "4294967296L", "4294967299L", "-4294967296L", "2147483647", "-2147483648",
            "9223372036854775807L", "-9223372036854775808L"}) {
            asks("{drop: " + none + ", shelf: 0}", "{fault: 41, place: -1}");
            asks("{shape: " + none + ", shelf: 0}", "{fault: 41, place: -1}");
        }
        Docs.due("indexes", house.state(4), 4);
        for (int[] two : new int[][] {{0, 3}, {1, 2}, {2, 0}, {3, 1}}) {
            asks("{drop: " + two[0] + ", shelf: 0}", "{dropped: true}");
            asks("{drop: " + two[0] + ", shelf: 0}", "{fault: 41, place: -1}");
            asks("{drop: " + two[1] + "L, shelf: 0}", "{dropped: true}");
            Docs.due("indexes", house.state(4), 2);
            asks("{index: ['b'], shelf: 0, down: [false]}", "{index: " + Math.min(two[0], two[1]) + "}");
            asks("{index: ['b'], shelf: 0, down: [false]}", "{index: " + Math.max(two[0], two[1]) + "}");
            asks("{index: ['b'], shelf: 0, down: [false]}", NO_ROOM);
        }
        Docs.due("indexes of the other shelf", house.state(5), 0);
        asks("{index: ['b'], shelf: 1, down: [false]}", "{index: 0}");
    }

    /** "the ANSWER would have more than 8,000 bytes (which is looked at last)" */
    private static void longAnswers() {
        for (int more = 0; more < 2; more++) {
            house = new DocumentHouse();
            for (int i = 1; i <= 5; i++) {
                insert("{a: ''}", "{number: " + i + "}");
            }
            // an answer has 4 + 10 + 7 + 5 + 1 bytes, an item of find 24 and the document, one of a pipeline 3 and it
            asks("{update: {}, shelf: 0, change: {$set: {a: " + text(1500) + "}}}", "{many: 5, changed: 5}");
            insert("{b: " + text(8000 - 27 - 5 * (24 + 1513) - 24 - 13 + more) + "}", "{number: 6}");
            found("{find: {}, shelf: 0}", more);
            asks("{count: {}, shelf: 0}", "{many: 6}");
            asks("{update: {b: {$exists: true}}, shelf: 0, change: {$set: {b: "
                + text(8000 - 27 - 5 * (3 + 1513) - 3 - 13 + more) + "}}}", "{many: 1, changed: 1}");
            found("{pipeline: [], shelf: 0}", more);
            found("{pipeline: [{$match: {}}, {$skip: 0}, {$sort: {zz: 1}}], shelf: 0}", more);
            // looked at last: a stage behind may leave less, or have a fault
            asks("{pipeline: [{$group: {by: 1, n: {$count: null}}}], shelf: 0}", "{many: 1, found: [{by: 1, n: 6L}]}");
            Docs.faultAt(house, "{pipeline: [{$limit: 6}, {$foo: 1}], shelf: 0}", 31, "1");
            Docs.faultAt(house, "{find: {$foo: 1}, shelf: 0}", 11, "$foo");
        }
    }

    private static void found(String request, int more) {
        byte[] bytes = Docs.bytes(request);
        Docs.feed(house, bytes);
        Docs.due("bytes of the answer of " + request, house.ask(bytes.length), more == 0 ? 8000 : 27);
        Docs.due("byte 7999", house.answer(7999), more == 0 ? 0 : -1);
        Docs.due("byte 8000", house.answer(8000), -1);
        Docs.due("state(6)", house.state(6), more == 0 ? 8000 : 27);
        if (more > 0) {
            Docs.due("the answer", Docs.text(Docs.answer(house)), NO_ROOM);
        }
    }

    /** "What can't be done so changes nothing, and has an ANSWER with fault .. The first of these" */
    private static void whichFault() {
        house = new DocumentHouse();
        insert("{a: 1, b: " + text(59) + "}", "{number: 1}");
        insert("{a: 'x'}", "{number: 2}");
        asks("{index: ['b'], shelf: 0, down: [false]}", "{index: 0}");
        String update = "{update: FILTER, shelf: 0, change: CHANGE}";
        String noRoom = "$set: {b: " + text(60) + "}";
        // 9 ahead of a filter's, that ahead of a change's, that ahead of what doing it has, that ahead of no room
        Docs.faultAt(house, update.replace("FILTER", "{$foo: 1}").replace("CHANGE", "1"), 9, "change");
        Docs.faultAt(house, update.replace("FILTER", "{$foo: 1}").replace("CHANGE", "{$bar: 1}"), 11, "$foo");
        Docs.faultAt(house, update.replace("FILTER", "{}").replace("CHANGE", "{$inc: {a: 1}, $bar: 1}"), 21, "$bar");
        Docs.faultAt(house, update.replace("FILTER", "{}").replace("CHANGE", "{" + noRoom + ", $inc: {a: 1}}"), 27, "a");
        asks(update.replace("FILTER", "{a: 1}").replace("CHANGE", "{" + noRoom + ", $inc: {a: 1}}"), NO_ROOM);
        asks(update.replace("FILTER", "{}").replace("CHANGE", "{" + noRoom + "}"), NO_ROOM);
        asks(update.replace("FILTER", "{a: 7}").replace("CHANGE", "{" + noRoom + ", $inc: {a: 1}}"), "{many: 0, changed: 0}");
        Docs.stand(house, 0, "{a: 1, b: " + text(59) + "}", "{a: 'x'}");
        asks("{shape: 0, shelf: 0}", "{entries: 2, levels: 1, leaves: 1, nodes: 1, first: false, second: false}");
        // an insert's fault 9 ahead of no room; a document that is none ahead of all
        Docs.faultAt(house, "{insert: {b: " + text(60) + "}, shelf: 2}", 9, "shelf");
        byte[] request = Docs.bytes("{insert: {b: " + text(60) + "}, shelf: 2}");
        request[request.length - 1] = 1;
        Docs.fault(house, request, 2, request.length - 1);
        // 9 ahead of 41
        Docs.faultAt(house, "{drop: 3, shelf: 0, x: 1}", 9, "x");
        asks("{drop: 3, shelf: 0}", "{fault: 41, place: -1}");
        Docs.stand(house, 0, "{a: 1, b: " + text(59) + "}", "{a: 'x'}");
        Docs.due("indexes", house.state(4), 1);
    }

    /** "done to all for which the filter holds, in the order of NUMBERS, or to none"; "these go"; "(No shelf is changed.)" */
    private static void allOrNone() {
        house = new DocumentHouse();
        for (int i = 1; i <= 5; i++) {
            insert("{n: " + i + ", a: " + (i == 4 ? "'x'" : "0") + "}", "{number: " + i + "}");
        }
        Docs.faultAt(house, "{update: {}, shelf: 0, change: {$set: {z: 1}, $inc: {a: 1}}}", 27, "a");
        asks("{count: {z: 1}, shelf: 0}", "{many: 0}");
        asks("{update: {n: {$ne: 4}}, shelf: 0, change: {$set: {z: 1}, $inc: {a: 1}}}", "{many: 4, changed: 4}");
        asks("{update: {z: 1}, shelf: 0, change: {$set: {z: 1}}}", "{many: 4, changed: 0}");
        asks("{update: {}, shelf: 0, change: {$addToSet: {q: 1}, $set: {z: 1}}}", "{many: 5, changed: 5}");
        asks("{update: {}, shelf: 0, change: {}}", "{many: 5, changed: 0}");
        asks("{delete: {n: {$in: [1, 3, 5, 9]}}, shelf: 0}", "{many: 3}");
        Docs.stand(house, 0, "{n: 2, a: 1, z: 1, q: [1]}", "{n: 4, a: 'x', q: [1], z: 1}");
        asks("{pipeline: [{$project: {n: true}}, {$limit: 1}], shelf: 0}", "{many: 1, found: [{n: 2}]}");
        Docs.stand(house, 0, "{n: 2, a: 1, z: 1, q: [1]}", "{n: 4, a: 'x', q: [1], z: 1}");
        asks("{delete: {n: 7}, shelf: 0}", "{many: 0}");
        asks("{delete: {}, shelf: 1}", "{many: 0}");
        asks("{delete: {}, shelf: 0}", "{many: 2}");
        asks("{find: {}, shelf: 0}", "{many: 0, found: []}");
    }

    public static void main(String[] args) {
        elements();
        shelves();
        values();
        paths();
        numbers();
        twoHundredDocuments();
        fortyThousandBytes();
        bytesAtLast();
        bytesOfAnInsert();
        oneThousandEntries();
        longKeys();
        whatHasGone();
        fourIndexes();
        longAnswers();
        whichFault();
        allOrNone();
        Docs.end();
    }
}
