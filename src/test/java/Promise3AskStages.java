/** Promise 3, Part V: the stages of a pipeline and their faults, 31 to 35. */
public final class Promise3AskStages {
    private static DocumentHouse house;

    /** A house with these documents on shelf 0, and those on shelf 1. */
    private static void stand(String[] first, String... second) {
        house = new DocumentHouse();
        for (String document : first) {
            Docs.ask(house, "{insert: " + document + ", shelf: 0}");
        }
        for (String document : second) {
            Docs.ask(house, "{insert: " + document + ", shelf: 1}");
        }
        Docs.due("documents", house.state(0), first.length);
        Docs.due("documents", house.state(1), second.length);
    }

    private static String[] all(String... documents) {
        return documents;
    }

    private static void gives(String stages, String... due) {
        String request = "{pipeline: [" + stages + "], shelf: 0}";
        String found = String.join(", ", due);
        Docs.asks(house, request, "{many: " + due.length + ", found: [" + found + "]}");
    }

    /** A fault of the stage that is the first with this item's name as the request has it. */
    private static void fault(int fault, String stages, int item) {
        Docs.faultAt(house, "{pipeline: [" + stages + "], shelf: 0}", fault, Integer.toString(item));
    }

    private static void matches() {
        stand(all("{a: 1}", "{a: 2}", "{a: 3}"), "{b: 1}");
        gives("", "{a: 1}", "{a: 2}", "{a: 3}");
        gives("{$match: {a: {$gt: 1}}}", "{a: 2}", "{a: 3}");
        gives("{$match: {a: {$gt: 1}}}, {$match: {a: {$lt: 3}}}", "{a: 2}");
        gives("{$match: {}}", "{a: 1}", "{a: 2}", "{a: 3}");
        Docs.asks(house, "{pipeline: [{$match: {}}], shelf: 1}", "{many: 1, found: [{b: 1}]}");
        fault(31, "{}", 0);
        fault(31, "{$match: {}, $limit: 1}", 0);
        fault(31, "{$limit: 1, $skip: 1}", 0);
        fault(31, "{$match: 1}", 0);
        fault(31, "{$match: []}", 0);
        fault(31, "{$foo: {}}", 0);
        fault(31, "{limit: 1}", 0);
        fault(31, "{$limit: 1}, {$skip: 1}, {$matches: {}}", 2);
        // each in its turn
        fault(32, "{$limit: -1}, {$match: {$bad: 1}}", 0);
        Docs.faultAt(house, "{pipeline: [{$match: {$bad: 1}}, {$limit: -1}], shelf: 0}", 11, "$bad");
        Docs.faultAt(house, "{pipeline: [{$limit: 1}, {$match: {a: {$in: 5}}}], shelf: 0}", 14, "$in");
        // no shelf is changed
        gives("{$limit: 0}");
        Docs.due("documents", house.state(0), 3);
    }

    private static void projects() {
        stand(all("{a: 1, b: {c: 2, d: [3, {e: 4}, {e: 5, f: 6}]}}", "{b: [{c: 1}, 7, {c: [{x: 1}]}, {d: 0}]}"));
        gives("{$project: {a: true}}", "{a: 1}", "{}");
        gives("{$project: {b: '$b.c', a: true}}", "{b: 2, a: 1}", "{b: [1, [{x: 1}]]}");
        gives("{$project: {x: '$b.d.e'}}", "{x: [4, 5]}", "{x: []}");
        gives("{$project: {x: '$b.d.e.f'}}", "{x: []}", "{x: []}");
        gives("{$project: {x: '$b.c.x'}}", "{}", "{x: [[1]]}");
        stand(all("{a: [{b: [{c: 1}, 7]}, 5, {b: []}, {b: {c: [2]}}, {b: [{c: 3}, {c: 4}]}]}"));
        gives("{$project: {x: '$a.b.c'}}", "{x: [[1], [], [2], [3, 4]]}");
        stand(all("{a: 1, b: {c: 2, d: [3, {e: 4}, {e: 5, f: 6}]}}", "{b: [{c: 1}, 7, {c: [{x: 1}]}, {d: 0}]}"));
        gives("{$project: {x: '$b.d.0'}}", "{x: []}", "{x: []}");
        gives("{$project: {x: '$a.b'}}", "{}", "{}");
        gives("{$project: {x: false, y: 5, z: 'text', w: {a: '$a'}, v: ['$a'], u: null}}",
            "{x: false, y: 5, z: 'text', w: {a: '$a'}, v: ['$a'], u: null}",
            "{x: false, y: 5, z: 'text', w: {a: '$a'}, v: ['$a'], u: null}");
        gives("{$project: {a: '$a', b: 1}}", "{a: 1, b: 1}", "{b: 1}");
        for (String value : new String[] {"1", "[]", "null", "'$a'", "true", "{}"}) {
            fault(32, "{$project: " + value + "}", 0);
        }
        for (String name : new String[] {"''", "a.b", "$a", ".", "$"}) {
            fault(32, "{$project: {x: true, " + name + ": true}}", 0);
        }
        for (String text : new String[] {"$", "$.", "$a.", "$a..b", "$$a", "$a.$b", "$a.b.c.d.e.f.g.h.i", "$a\0"}) {
            fault(33, "{$project: {x: '" + text + "'}}", 0);
            fault(33, "{$group: {by: '" + text + "'}}", 0);
            fault(33, "{$group: {by: 1, x: {$sum: '" + text + "'}}}", 0);
            fault(33, "{$unwind: '" + text + "'}", 0);
        }
        gives("{$project: {x: '$a.b.c.d.e.f.g.h'}}", "{}", "{}");
        fault(33, "{$project: {x: '$', .: true}}", 0);
        fault(32, "{$project: {.: true, x: '$'}}", 0);
        fault(32, "{$project: {.: '$'}}", 0);
        gives("{$project: {x: ''}}", "{x: ''}", "{x: ''}");
    }

    private static void unwinds() {
        stand(all("{k: 1, a: [1, 'x', {b: 2}]}", "{k: 2, a: []}", "{k: 3, a: null}", "{k: 4}", "{k: 5, a: 7}",
            "{k: 6, a: {b: [8, [9], null]}, z: 1}", "{k: 7, a: [[1, 2]]}"));
        gives("{$unwind: '$a'}", "{k: 1, a: 1}", "{k: 1, a: 'x'}", "{k: 1, a: {b: 2}}", "{k: 5, a: 7}",
            "{k: 6, a: {b: [8, [9], null]}, z: 1}", "{k: 7, a: [1, 2]}");
        gives("{$unwind: '$a.b'}", "{k: 6, a: {b: 8}, z: 1}", "{k: 6, a: {b: [9]}, z: 1}", "{k: 6, a: {b: null}, z: 1}");
        gives("{$unwind: '$a.0'}");
        gives("{$unwind: '$a'}, {$unwind: '$a'}, {$match: {k: 7}}", "{k: 7, a: 1}", "{k: 7, a: 2}");
        for (String value : new String[] {"1", "null", "{}", "[]", "'a'", "''", "true", "'a$'"}) {
            fault(32, "{$unwind: " + value + "}", 0);
        }
    }

    private static void groups() {
        stand(all("{k: 1, v: 5}", "{k: 'x', v: 2L}", "{k: 1L, v: 'y'}", "{v: 3, w: 1}", "{k: null, v: 3}", "{k: 1}"));
        gives("{$group: {by: '$k'}}", "{by: 1}", "{by: 'x'}", "{by: null}");
        gives("{$group: {by: '$k', n: {$count: null}, s: {$sum: '$v'}}}", "{by: 1, n: 3L, s: 5L}",
            "{by: 'x', n: 1L, s: 2L}", "{by: null, n: 2L, s: 6L}");
        gives("{$group: {by: null, min: {$min: '$v'}, max: {$max: '$v'}, p: {$push: '$v'}, s: {$addToSet: '$v'}}}",
            "{by: null, min: 2L, max: 'y', p: [5, 2L, 'y', 3, 3], s: [5, 2L, 'y', 3]}");
        gives("{$group: {by: '$k', f: {$first: '$v'}, l: {$last: '$v'}, w: {$first: '$w'}, x: {$last: '$w'}}}",
            "{by: 1, f: 5, l: null, w: null, x: null}", "{by: 'x', f: 2L, l: 2L, w: null, x: null}",
            "{by: null, f: 3, l: 3, w: 1, x: null}");
        gives("{$group: {by: 0, a: {$min: '$no'}, b: {$max: '$no'}, c: {$sum: '$no'}, d: {$push: '$no'}, "
            + "e: {$addToSet: '$no'}, f: {$first: '$no'}, g: {$last: '$no'}}}",
            "{by: 0, a: null, b: null, c: 0L, d: [], e: [], f: null, g: null}");
        gives("{$group: {by: {a: 1}, a: {$sum: 2}, b: {$push: 'q'}, c: {$addToSet: true}, d: {$first: []}}}",
            "{by: {a: 1}, a: 12L, b: ['q', 'q', 'q', 'q', 'q', 'q'], c: [true], d: []}");
        gives("{$limit: 0}, {$group: {by: 1, n: {$count: null}}}");
        stand(all("{a: 1L, b: [{c: 1}, {c: 2}]}", "{a: 1, b: [{c: 1L}, {c: 2L}]}", "{a: 1}"));
        gives("{$group: {by: '$b.c', m: {$min: '$a'}, n: {$max: '$a'}}}", "{by: [1, 2], m: 1L, n: 1L}",
            "{by: null, m: 1, n: 1}");
        gives("{$group: {by: 1, s: {$addToSet: '$b.c'}, p: {$push: '$b.c'}}}",
            "{by: 1, s: [[1, 2]], p: [[1, 2], [1L, 2L]]}");
        for (String value : new String[] {"1", "null", "[]", "{}", "{x: {$count: null}}", "{x: 1, by: 1}",
            "{by: 1, x: 1}", "{by: 1, x: {}}", "{by: 1, x: {$count: null, $sum: 1}}", "{by: 1, x: {$foo: 1}}",
            "{by: 1, x: {$count: 1}}", "{by: 1, a.b: {$sum: 1}}", "{by: 1, $a: {$sum: 1}}", "{by: 1, '': {$sum: 1}}",
            "{by: 1, x: []}", "{by: 1, x: ['$sum']}", "{By: 1}"}) {
            fault(32, "{$group: " + value + "}", 0);
        }
        fault(33, "{$group: {by: '$', x: 1}}", 0);
        fault(32, "{$group: {by: 1, x: 1, y: {$sum: '$'}}}", 0);
        fault(33, "{$group: {by: 1, x: {$sum: '$'}, y: 1}}", 0);
        fault(32, "{$group: {by: 1, .: {$sum: '$'}}}", 0);
        fault(32, "{$group: {by: 1, x: {$count: null}, y: {$max: 1}, z: 1}}", 0);
        fault(33, "{$group: {by: 1, x: {$count: null}, y: {$max: '$'}, z: 1}}", 0);
    }

    private static void sums() {
        String most = "9223372036854775807L";
        String least = "-9223372036854775808L";
        stand(all("{v: " + most + "}", "{v: " + most + "}", "{v: " + least + "}", "{v: " + least + "}", "{v: 1}"));
        gives("{$group: {by: 1, s: {$sum: '$v'}}}", "{by: 1, s: -1L}");
        fault(34, "{$limit: 2}, {$group: {by: 1, s: {$sum: '$v'}}}", 1);
        fault(34, "{$skip: 2}, {$group: {by: 1, s: {$sum: '$v'}}}", 1);
        gives("{$skip: 3}, {$group: {by: 1, s: {$sum: '$v'}}}", "{by: 1, s: -9223372036854775807L}");
        gives("{$limit: 1}, {$group: {by: 1, s: {$sum: '$v'}}}", "{by: 1, s: " + most + "}");
        fault(34, "{$group: {by: '$v', s: {$sum: '$v'}}}", 0);
        // a sum's fault is ahead of one of too much
        String x = "'" + "x".repeat(600) + "'";
        fault(34, "{$group: {by: '$v', p: {$push: " + x + "}, q: {$push: " + x + "}, s: {$sum: '$v'}}}", 0);
    }

    private static void sorts() {
        stand(all("{k: 3, n: 0}", "{k: 1, n: 1}", "{k: 2, n: 2}", "{k: 1L, n: 3}", "{n: 4}", "{k: 'a', n: 5}"));
        gives("{$sort: {k: 1}}, {$project: {n: true}}", "{n: 4}", "{n: 1}", "{n: 3}", "{n: 2}", "{n: 0}", "{n: 5}");
        gives("{$sort: {k: -1}}, {$project: {n: true}}", "{n: 5}", "{n: 0}", "{n: 2}", "{n: 1}", "{n: 3}", "{n: 4}");
        gives("{$sort: {k: 1L, n: -1L}}, {$project: {n: true}}", "{n: 4}", "{n: 3}", "{n: 1}", "{n: 2}", "{n: 0}", "{n: 5}");
        gives("{$sort: {a: 1, b: -1, c: 1, n: -1}}, {$limit: 2}, {$project: {n: true}}", "{n: 5}", "{n: 4}");
        // leaves with their items: the least, or the greatest; the row itself is one of them
        stand(all("{n: 0, a: [2, 9]}", "{n: 1, a: 5}", "{n: 2, a: [3, 4]}", "{n: 3, a: []}", "{n: 4}", "{n: 5, a: null}",
            "{n: 6, a: true}"));
        gives("{$sort: {a: 1}}, {$project: {n: true}}", "{n: 4}", "{n: 5}", "{n: 0}", "{n: 2}", "{n: 1}", "{n: 3}", "{n: 6}");
        gives("{$sort: {a: -1}}, {$project: {n: true}}", "{n: 6}", "{n: 2}", "{n: 0}", "{n: 3}", "{n: 1}", "{n: 5}", "{n: 4}");
        stand(all("{n: 0, a: [{b: 4}, {b: 1}]}", "{n: 1, a: [{b: 3}, {c: 1}]}", "{n: 2, a: []}", "{n: 3, a: {b: 2}}"));
        gives("{$sort: {a.b: 1}}, {$project: {n: true}}", "{n: 1}", "{n: 2}", "{n: 0}", "{n: 3}");
        gives("{$sort: {a.b: -1}}, {$project: {n: true}}", "{n: 0}", "{n: 1}", "{n: 3}", "{n: 2}");
        StringBuilder items = new StringBuilder();
        for (int i = 1; i < 380; i++) {
            items.append("null, ");
        }
        items.append("true");
        stand(all("{n: 0, a: [" + items + "]}", "{n: 1, a: []}", "{n: 2, a: true}"), "{a: false}", "{a: true}");
        gives("{$sort: {a: 1}}, {$project: {n: true}}", "{n: 0}", "{n: 1}", "{n: 2}");
        gives("{$project: {n: true}}, {$sort: {n: -1}}, {$lookup: {here: 'a', there: 'a', as: 'b'}}, {$limit: 1}",
            "{n: 2, b: []}");
        gives("{$lookup: {here: 'a', there: 'a', as: 'a'}}", "{n: 0, a: [{a: true}]}", "{n: 1, a: []}",
            "{n: 2, a: [{a: true}]}");
        for (String value : new String[] {"1", "null", "[]", "{}", "'a'", "{a: 1, b: 1, c: 1, d: 1, e: 1}", "{a: 0}",
            "{a: 2}", "{a: -2}", "{a: true}", "{a: '1'}", "{a: 4294967297L}", "{a: 1, .: 0}", "{.: 0}",
            "{a: 1, b: 1, c: 1, d: 1, .: 1}"}) {
            fault(32, "{$sort: " + value + "}", 0);
        }
        for (String name : new String[] {"''", ".", "a.", "$a", "a.$b", "a.b.c.d.e.f.g.h.i"}) {
            fault(33, "{$sort: {a: 1, " + name + ": 1, b: 7}}", 0);
        }
    }

    private static void skips() {
        stand(all("{n: 0}", "{n: 1}", "{n: 2}"));
        gives("{$skip: 0}", "{n: 0}", "{n: 1}", "{n: 2}");
        gives("{$skip: 1}", "{n: 1}", "{n: 2}");
        gives("{$skip: 3L}");
        gives("{$skip: 9223372036854775807L}");
        gives("{$limit: 0}");
        gives("{$limit: 2}", "{n: 0}", "{n: 1}");
        gives("{$limit: 4294967297L}", "{n: 0}", "{n: 1}", "{n: 2}");
        gives("{$skip: 1}, {$limit: 1}", "{n: 1}");
        for (String name : new String[] {"$skip", "$limit"}) {
            for (String value : new String[] {"-1", "-1L", "-9223372036854775808L", "null", "{}", "[]", "'1'", "true"}) {
                fault(32, "{" + name + ": " + value + "}", 0);
            }
        }
    }

    private static void lookups() {
        stand(all("{k: 1, x: 0}", "{k: [2, 3]}", "{k: 7, o: 'own', z: 1}", "{}", "{k: null}", "{k: []}"),
            "{j: 1}", "{j: [3, 1L]}", "{j: 2}", "{i: 1}", "{j: null}", "{j: []}");
        gives("{$lookup: {here: 'k', there: 'j', as: 'o'}}", "{k: 1, x: 0, o: [{j: 1}, {j: [3, 1L]}]}",
            "{k: [2, 3], o: [{j: [3, 1L]}, {j: 2}]}", "{k: 7, o: [], z: 1}", "{o: [{i: 1}, {j: null}]}",
            "{k: null, o: [{i: 1}, {j: null}]}", "{k: [], o: [{j: []}]}");
        gives("{$match: {k: 1}}, {$lookup: {here: 'k', there: 'j', as: 'k'}}", "{k: [{j: 1}, {j: [3, 1L]}], x: 0}");
        // no leaf at all is NOTHING
        gives("{$match: {k: {$size: 0}}}, {$lookup: {here: 'k.z', there: 'i', as: 'o'}}, {$project: {o: '$o.j'}}",
            "{o: [1, [3, 1L], 2, null, []]}");
        gives("{$match: {x: 0}}, {$lookup: {here: 'no', there: 'j.z', as: 'o'}}, {$project: {o: '$o.j'}}",
            "{o: [1, [3, 1L], 2, null, []]}");
        Docs.asks(house, "{pipeline: [{$match: {j: 2}}, {$lookup: {here: 'j', there: 'k', as: 'q'}}], shelf: 1}",
            "{many: 1, found: [{j: 2, q: [{k: [2, 3]}]}]}");
        for (String value : new String[] {"1", "[]", "{}", "{here: 'a', there: 'b'}", "{here: 'a', there: 'b', as: 1}",
            "{here: 1, there: 'b', as: 'c'}", "{here: 'a', there: null, as: 'c'}", "{there: 'a', here: 'b', as: 'c'}",
            "{here: 'a', there: 'b', as: 'c', x: 1}", "{here: 'a', there: 'b', as: ''}", "{here: 'a', there: 'b', as: '$c'}",
            "{here: 'a', there: 'b', as: 'c.d'}", "{here: 'a', there: 'b', as: 'c\0'}", "{here: 'a', there: 'b', at: 'c'}",
            "{here: '', there: '', as: ''}"}) {
            fault(32, "{$lookup: " + value + "}", 0);
        }
        for (String path : new String[] {"", ".", "$a", "a.$b", "a..b", "a\0", "a.b.c.d.e.f.g.h.i"}) {
            fault(33, "{$lookup: {here: '" + path + "', there: 'b', as: 'c'}}", 0);
            fault(33, "{$lookup: {here: 'a', there: '" + path + "', as: 'c'}}", 0);
        }
    }

    private static void tooMuch() {
        String x = "'" + "x".repeat(950) + "'";
        stand(all("{a: " + x + "}", "{a: " + x + "}"));
        // a document of 2,000 bytes or one more: 4 + 3 + 955 + 3 + 955 + 3 + 5 + n + 1
        String project = "{$project: {a: true, b: '$a', c: '" + "y".repeat(71) + "'}}, {$project: {d: 1}}";
        gives(project, "{d: 1}", "{d: 1}");
        fault(35, "{$project: {a: true, b: '$a', c: '" + "y".repeat(72) + "'}}", 0);
        gives("{$group: {by: 1, p: {$push: '$a'}}}", "{by: 1, p: [" + x + ", " + x + "]}");
        fault(35, "{$group: {by: '$a', p: {$push: '$a'}, q: {$first: '$a'}}}", 0);
        fault(35, "{$lookup: {here: 'a', there: 'a', as: 'b'}}, {$project: {p: '$a', q: '$a', r: '" + "y".repeat(90) + "'}}", 1);
        // values of many documents that are long, if not what comes of them
        house = new DocumentHouse();
        for (int i = 0; i < 20; i++) {
            Docs.ask(house, "{insert: {a: [{b: '" + "x".repeat(1880) + "'}], c: [{d: " + i + "}]}, shelf: 0}");
        }
        StringBuilder fields = new StringBuilder("by: 1");
        StringBuilder due = new StringBuilder("by: 1");
        for (int i = 0; i < 6; i++) {
            fields.append(", s").append(i).append(": {$sum: '$a.b'}");
            due.append(", s").append(i).append(": 0L");
        }
        for (int i = 0; i < 20; i++) {
            fields.append(", m").append(i).append(": {$max: '$c.d'}");
            due.append(", m").append(i).append(": [19]");
        }
        gives("{$group: {" + fields + "}}", "{" + due + "}");
        gives("{$group: {by: '$a.b', n: {$max: '$c.d'}, m: {$count: null}, o: {$last: '$a.c'}}}, {$project: {n: true, "
            + "m: true, o: true}}", "{n: [19], m: 20L, o: []}");
        // more than 16 deep
        String deep = "{a: {a: {a: {a: {a: {a: {a: {a: {a: {a: {a: {a: {a: {}}}}}}}}}}}}}}";
        stand(all(deep), deep);
        gives("{$group: {by: '$a', x: {$first: '$a'}}}", "{by: " + deep.substring(4, deep.length() - 1) + ", x: "
            + deep.substring(4, deep.length() - 1) + "}");
        gives("{$lookup: {here: 'a', there: 'a', as: 'o'}}", deep.substring(0, deep.length() - 1) + ", o: [" + deep + "]}");
        gives("{$lookup: {here: 'a', there: 'a', as: 'o'}}, {$project: {p: '$o'}}", "{p: [" + deep + "]}");
        fault(35, "{$lookup: {here: 'a', there: 'a', as: 'o'}}, {$group: {by: 1, p: {$push: '$o'}}}", 1);
        // more than 200 documents, or 40,000 bytes in all
        house = new DocumentHouse();
        String ten = "[0, 1, 2, 3, 4, 5, 6, 7, 8, 9]";
        for (int i = 0; i < 20; i++) {
            Docs.ask(house, "{insert: {a: " + ten + ", n: " + i + "}, shelf: 0}");
        }
        String count = "{$group: {by: 1, n: {$count: null}}}";
        gives("{$unwind: '$a'}, " + count, "{by: 1, n: 200L}");
        Docs.ask(house, "{insert: {a: [1], n: 20}, shelf: 0}");
        fault(35, "{$unwind: '$a'}, " + count, 0);
        gives("{$skip: 1}, {$unwind: '$a'}, " + count, "{by: 1, n: 191L}");
        house = new DocumentHouse();
        for (int i = 0; i < 20; i++) {
            Docs.ask(house, "{insert: {a: [1, 2], s: '" + "z".repeat(976) + "'}, shelf: 0}");
        }
        // each new one has 4 + 7 + 984 + 1 bytes, with xx 1,000: 40 of them 40,000
        gives("{$unwind: '$a'}, {$project: {a: true, s: true, xx: null}}, " + count, "{by: 1, n: 40L}");
        fault(35, "{$unwind: '$a'}, {$project: {a: true, s: true, xxx: null}}, " + count, 1);
        Docs.ask(house, "{update: {}, shelf: 0, change: {$push: {a: 3}}}");
        fault(35, "{$unwind: '$a'}, {$match: {a: 9}}", 0);
        gives("{$limit: 13}, {$unwind: '$a'}, " + count, "{by: 1, n: 39L}");
    }

    public static void main(String[] args) {
        matches();
        projects();
        unwinds();
        groups();
        sums();
        sorts();
        skips();
        lookups();
        tooMuch();
        Docs.end();
    }
}
