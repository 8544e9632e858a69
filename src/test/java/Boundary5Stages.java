/** Promise 3, Part V, sentence by sentence: stages at their edges, and their faults. */
public final class Boundary5Stages {
    private static DocumentHouse house;

    private static void stand(String... documents) {
        house = new DocumentHouse();
        for (int i = 0; i < documents.length; i++) {
            Docs.asks(house, "{insert: " + documents[i] + ", shelf: 0}", "{number: " + (i + 1) + "}");
        }
    }

    private static void other(String... documents) {
        for (int i = 0; i < documents.length; i++) {
            Docs.asks(house, "{insert: " + documents[i] + ", shelf: 1}", "{number: " + (i + 1) + "}");
        }
    }

    private static void gives(String stages, String... due) {
        Docs.asks(house, "{pipeline: [" + stages + "], shelf: 0}",
            "{many: " + due.length + ", found: [" + String.join(", ", due) + "]}");
    }

    private static void fault(int fault, String stages, int item) {
        Docs.faultAt(house, "{pipeline: [" + stages + "], shelf: 0}", fault, Integer.toString(item));
    }

    private static String text(int n) {
        return "'" + "x".repeat(n) + "'";
    }

    private static final String[] EACH = {"{$match: {}}", "{$project: {a: true}}", "{$unwind: '$a'}",
        "{$group: {by: 1, n: {$count: null}}}", "{$sort: {a: 1}}", "{$skip: 0}", "{$limit: 1}",
        "{$lookup: {here: 'a', there: 'a', as: 'x'}}"};

    /** "1: there is not one element, or its name is none of the above" */
    private static void notOneElement() {
        for (int filled = 0; filled < 2; filled++) {
            stand(filled == 1 ? new String[] {"{a: 1}"} : new String[0]);
            fault(31, "{}", 0);
            for (String stage : EACH) {
                String inside = stage.substring(1, stage.length() - 1);
                fault(31, "{" + inside + ", z: 1}", 0);
                fault(31, "{z: 1, " + inside + "}", 0);
                fault(31, stage + ", {" + inside.replaceFirst(":", "s:") + "}", 1);
                fault(31, stage + ", " + stage + ", {" + inside.substring(1) + "}", 2);
            }
            fault(31, "{'': 1}", 0);
            fault(31, "{$: 1}", 0);
            for (String value : new String[] {"1", "[]", "null", "''", "true", "[{}]"}) {
                fault(31, "{$match: " + value + "}", 0);
            }
            fault(31, "{$match: {}, $match2: {}}", 0);
        }
    }

    /** A stage's value is looked at though no document is on the belt; and an empty belt gives what is due. */
    private static void emptyBelts() {
        stand();
        for (String stage : EACH) {
            gives(stage);
            gives(stage + ", " + stage);
        }
        String[] wrong = {"{$project: {}}", "{$unwind: 'a'}", "{$group: {}}", "{$sort: {}}", "{$skip: -1}", "{$limit: -1}",
            "{$lookup: {}}"};
        for (String stage : wrong) {
            fault(32, stage, 0);
            fault(32, "{$limit: 0}, " + stage, 1);
        }
        fault(33, "{$unwind: '$'}", 0);
        fault(33, "{$project: {a: '$'}}", 0);
        stand("{a: 1}");
        for (String stage : EACH) {
            gives("{$limit: 0}, " + stage);
        }
    }

    /** "whose names are PLAIN (not empty, no point and no byte 0 in them, not beginning with $)" */
    private static void plainNames() {
        stand("{a: 1}");
        for (String name : new String[] {"''", ".", "a.", ".a", "a.b", "$", "$a", "$a.b"}) {
            fault(32, "{$project: {" + name + ": 5}}", 0);
            fault(32, "{$project: {q: 5, " + name + ": true}}", 0);
            fault(32, "{$group: {by: 1, " + name + ": {$sum: 1}}}", 0);
            String as = name.equals("''") ? name : "'" + name + "'";
            fault(32, "{$lookup: {here: 'a', there: 'a', as: " + as + "}}", 0);
        }
        fault(32, "{$lookup: {here: 'a', there: 'a', as: 'a\0'}}", 0);
        fault(32, "{$lookup: {here: 'a', there: 'a', as: '\0'}}", 0);
        for (String name : new String[] {"a$", "0", "by2", "'\u00e9'", "' '", "a$b"}) {
            String plain = name.replace("'", "");
            gives("{$project: {" + name + ": 5}}", "{" + plain + ": 5}");
            gives("{$group: {by: 1, " + name + ": {$sum: 1}}}", "{by: 1, " + plain + ": 1L}");
            gives("{$lookup: {here: 'a', there: 'a', as: '" + plain + "'}}", "{a: 1, " + plain + ": []}");
        }
    }

    /** "a TRUTH 1 as value: the document's own element of that name; otherwise (a TRUTH 0, too) an EXPRESSION" */
    private static void projects() {
        stand("{a: 1, b: {c: 2}, d: [{e: 1}, {e: 2}, {f: 3}, 4], n: null}", "{}");
        gives("{$project: {a: true}}", "{a: 1}", "{}");
        gives("{$project: {n: true, zz: true}}", "{n: null}", "{}");
        gives("{$project: {a: false}}", "{a: false}", "{a: false}");
        gives("{$project: {a: 1}}", "{a: 1}", "{a: 1}");
        gives("{$project: {x: '$a', y: 'a', z: '', w: 'a$'}}", "{x: 1, y: 'a', z: '', w: 'a$'}", "{y: 'a', z: '', w: 'a$'}");
        gives("{$project: {d: '$d.e', b: '$b.c', a: '$a.x'}}", "{d: [1, 2], b: 2}", "{}");
        gives("{$project: {d: '$d.0', x: '$d.zz'}}", "{d: [], x: []}", "{}");
        gives("{$project: {x: {a: '$a', b: true}, y: ['$a', true]}}", "{x: {a: '$a', b: true}, y: ['$a', true]}",
            "{x: {a: '$a', b: true}, y: ['$a', true]}");
        gives("{$project: {zz: '$zz'}}", "{}", "{}");
        fault(32, "{$project: {}}", 0);
    }

    /** "there is one document for each item ..; none when it is MISSING or NOTHING; otherwise the document stays" */
    private static void unwinds() {
        stand("{k: 0, a: []}", "{k: 1, a: [null]}", "{k: 2, a: [[], [1, 2]]}", "{k: 3, a: null}", "{k: 4}", "{k: 5, a: {}}",
            "{k: 6, a: false}", "{k: 7, a: ''}", "{k: 8, a: [0, 1, 2, 3, 4, 5, 6, 7, 8, 9, 10], z: 1}");
        gives("{$limit: 8}, {$unwind: '$a'}", "{k: 1, a: null}", "{k: 2, a: []}", "{k: 2, a: [1, 2]}", "{k: 5, a: {}}",
            "{k: 6, a: false}", "{k: 7, a: ''}");
        gives("{$unwind: '$a'}, {$skip: 14}", "{k: 8, a: 8, z: 1}", "{k: 8, a: 9, z: 1}", "{k: 8, a: 10, z: 1}");
        gives("{$unwind: '$a'}, {$unwind: '$a'}, {$match: {k: {$lt: 5}}}", "{k: 2, a: 1}", "{k: 2, a: 2}");
        stand("{a: {b: {c: {d: {e: {f: {g: {h: [1, 'x']}}}}}}}, z: 0}", "{a: [{b: 1}]}", "{a: {b: []}}");
        gives("{$unwind: '$a.b.c.d.e.f.g.h'}", "{a: {b: {c: {d: {e: {f: {g: {h: 1}}}}}}}, z: 0}",
            "{a: {b: {c: {d: {e: {f: {g: {h: 'x'}}}}}}}, z: 0}");
        gives("{$unwind: '$a.b'}, {$project: {z: true}}", "{z: 0}");
        gives("{$unwind: '$a.0'}");
        gives("{$unwind: '$a.0.b'}");
        for (String value : new String[] {"''", "'a'", "'a$'", "' $a'", "1", "null", "{}", "['$a']", "true"}) {
            fault(32, "{$unwind: " + value + "}", 0);
        }
        for (String value : new String[] {"$", "$.", "$$", "$$a", "$a.", "$.a", "$a.$b", "$a..b", "$a\0"}) {
            fault(33, "{$unwind: '" + value + "'}", 0);
        }
    }

    /** "its KEY, MISSING being NOTHING"; "$count ..; $sum of those that are numbers (0 without any); .. NOTHING for these four" */
    private static void groups() {
        stand("{}", "{k: null}", "{k: 1}", "{k: 1L, v: 'x'}", "{k: '1', v: null}", "{k: [], v: 0}", "{k: [], v: 0L}");
        gives("{$group: {by: '$k', c: {$count: null}}}", "{by: null, c: 2L}", "{by: 1, c: 2L}", "{by: '1', c: 1L}",
            "{by: [], c: 2L}");
        gives("{$group: {by: '$k', s: {$sum: '$v'}, f: {$first: '$v'}, l: {$last: '$v'}, m: {$min: '$v'}, x: {$max: '$v'}}}",
            "{by: null, s: 0L, f: null, l: null, m: null, x: null}", "{by: 1, s: 0L, f: null, l: 'x', m: 'x', x: 'x'}",
            "{by: '1', s: 0L, f: null, l: null, m: null, x: null}", "{by: [], s: 0L, f: 0, l: 0L, m: 0, x: 0}");
        gives("{$group: {by: '$k', p: {$push: '$v'}, a: {$addToSet: '$v'}}}", "{by: null, p: [], a: []}",
            "{by: 1, p: ['x'], a: ['x']}", "{by: '1', p: [null], a: [null]}", "{by: [], p: [0, 0L], a: [0]}");
        gives("{$group: {by: {k: '$k'}, n: {$sum: 1}}}", "{by: {k: '$k'}, n: 7L}");
        gives("{$group: {by: true, n: {$sum: true}, p: {$min: false}}}", "{by: true, n: 0L, p: false}");
        gives("{$group: {by: ''}}", "{by: ''}");
        for (String value : new String[] {"{}", "{a: 1}", "{By: 1}", "{b: 1}", "{byy: 1}", "{a: {$sum: 1}, by: 1}", "[1]",
            "'by'", "{by: 1, n: 1}", "{by: 1, n: {}}", "{by: 1, n: []}", "{by: 1, n: [1]}", "{by: 1, n: {$sum: 1, $max: 1}}",
            "{by: 1, n: {sum: 1}}", "{by: 1, n: {$sums: 1}}", "{by: 1, n: {$: 1}}", "{by: 1, n: {'': 1}}",
            "{by: 1, n: {$count: 1}}", "{by: 1, n: {$count: '$k'}}", "{by: 1, n: {$count: false}}", "{by: 1, n: {$count: {}}}"}) {
            fault(32, "{$group: " + value + "}", 0);
        }
        // a text is no document, whatever its letters are
        fault(32, "{$group: 'xby\0'}", 0);
        fault(32, "{$group: {by: 1, n: 'x$sum\0'}}", 0);
        fault(32, "{$group: {by: 1, n: 7L}}", 0);
    }

    /** "4: a sum that is no number of 64 bits (the sum of all, whatever comes on the way)" */
    private static void sums() {
        String most = "9223372036854775807L";
        String least = "-9223372036854775808L";
        String[][] rows = {{"0", "0L"}, {"0"}, {"0", "0", "0", "-0"}, {"1", "-1", "0"}, {most}, {least}, {most, "0"}, {least, "0"},
            {"0", most, "0"}, {most, "-1", "1"}, {most, most, least, least}, {least, least, most, most, "2"},
            {most, most, most, least, least}, {least, "-1", "1"}, {"-1", least, "1"}, {"2147483647", "2147483647"},
            {"-2147483648", "-2147483648"}, {most, least}, {most, "1"}, {least, "-1"}, {most, most}, {least, least},
            {most, most, most}, {least, least, most}, {"1", most}, {"-1", least}, {most, "1", "1", "-1"}};
        for (String[] row : rows) {
            java.math.BigInteger sum = java.math.BigInteger.ZERO;
            String[] documents = new String[row.length];
            for (int i = 0; i < row.length; i++) {
                documents[i] = "{v: " + row[i] + "}";
                sum = sum.add(new java.math.BigInteger(row[i].replace("L", "")));
            }
            stand(documents);
            if (sum.bitLength() <= 63) {
                gives("{$group: {by: 1, s: {$sum: '$v'}}}", "{by: 1, s: " + sum + "L}");
            } else {
                fault(34, "{$group: {by: 1, s: {$sum: '$v'}}}", 0);
                fault(34, "{$group: {by: 1, n: {$count: null}, s: {$sum: '$v'}, t: {$sum: '$zz'}}}, {$limit: -1}", 0);
                fault(32, "{$limit: -1}, {$group: {by: 1, s: {$sum: '$v'}}}", 0);
                // the sum of one group alone, which is not the first
                gives("{$limit: 1}, {$group: {by: 1, s: {$sum: '$v'}}}", "{by: 1, s: " + row[0].replace("L", "") + "L}");
            }
        }
    }

    /** "a document with 1 to 4 elements, whose names are paths, their values numbers 1 or -1" */
    private static void sorts() {
        stand("{n: 0, a: 1, b: 1}", "{n: 1, a: 1, b: 0}", "{n: 2, a: 0, b: 1}", "{n: 3, a: 1L, b: 1L}", "{n: 4, a: 1, b: [2, 0]}");
        String n = ", {$project: {n: true}}";
        gives("{$sort: {a: 1}}" + n, "{n: 2}", "{n: 0}", "{n: 1}", "{n: 3}", "{n: 4}");
        gives("{$sort: {a: -1L}}" + n, "{n: 0}", "{n: 1}", "{n: 3}", "{n: 4}", "{n: 2}");
        gives("{$sort: {a: 1L, b: 1}}" + n, "{n: 2}", "{n: 1}", "{n: 4}", "{n: 0}", "{n: 3}");
        gives("{$sort: {a: 1, b: -1}}" + n, "{n: 2}", "{n: 4}", "{n: 0}", "{n: 3}", "{n: 1}");
        gives("{$sort: {zz: 1, a: 1, b: 1, n: -1}}" + n, "{n: 2}", "{n: 4}", "{n: 1}", "{n: 3}", "{n: 0}");
        gives("{$sort: {zz: -1}}" + n, "{n: 0}", "{n: 1}", "{n: 2}", "{n: 3}", "{n: 4}");
        fault(32, "{$sort: {}}", 0);
        fault(32, "{$sort: {zz: 1, a: 1, b: 1, n: -1, y: 1}}", 0);
        fault(32, "{$sort: {'': 1, a: 1, b: 1, n: -1, y: 1}}", 0);
        for (String value : new String[] {"0", "2", "-2", "true", "'1'", "null", "[1]", "{}", "4294967297L", "-4294967295L",
            "4294967295L", "0L", "2147483647", "-2147483648"}) {
            fault(32, "{$sort: {a: " + value + "}}", 0);
            fault(32, "{$sort: {a: 1, '': " + value + "}}", 0);
            fault(33, "{$sort: {'': 1, a: " + value + "}}", 0);
        }
    }

    /** "by the least of the path's leaves WITH ITEMS .. (no leaf at all: MISSING)": items of items are none of them */
    private static void sortKeys() {
        String n = ", {$project: {n: true}}";
        stand("{n: 0, a: [[0], 9]}", "{n: 1, a: 5}", "{n: 2, a: [7, [0]]}");
        gives("{$sort: {a: 1}}" + n, "{n: 1}", "{n: 2}", "{n: 0}");
        stand("{n: 0, a: [[true]]}", "{n: 1, a: [[0, 1], [true, 0]]}", "{n: 2, a: [{}, []]}");
        gives("{$sort: {a: -1}}" + n, "{n: 1}", "{n: 0}", "{n: 2}");
        stand("{n: 0, a: [1]}", "{n: 1, a: [{b: null}]}", "{n: 2, a: [{}]}", "{n: 3, a: [{b: []}]}", "{n: 4, a: {b: []}}");
        gives("{$sort: {a.b: 1}}" + n, "{n: 0}", "{n: 2}", "{n: 1}", "{n: 3}", "{n: 4}");
        gives("{$sort: {a.b: -1}}" + n, "{n: 3}", "{n: 4}", "{n: 1}", "{n: 0}", "{n: 2}");
    }

    /** "$skip, $limit: a number from 0 on: so many first ones go; others than so many first ones go" */
    private static void skipsAndLimits() {
        stand("{n: 0}", "{n: 1}", "{n: 2}");
        String[] all = {"{n: 0}", "{n: 1}", "{n: 2}"};
        for (long n : new long[] {0, 1, 2, 3, 4, 2147483647, 2147483648L, 4294967296L, 4294967297L, Long.MAX_VALUE}) {
            int many = (int) Math.min(n, 3);
            for (String kind : n == (int) n ? new String[] {"", "L"} : new String[] {"L"}) {
                gives("{$skip: " + n + kind + "}", java.util.Arrays.copyOfRange(all, many, 3));
                gives("{$limit: " + n + kind + "}", java.util.Arrays.copyOf(all, many));
            }
        }
        for (String value : new String[] {"-1", "-1L", "-2147483648", "-4294967295L", "-9223372036854775808L", "'0'", "null",
            "true", "{}", "[]"}) {
            fault(32, "{$skip: " + value + "}", 0);
            fault(32, "{$limit: " + value + "}", 0);
        }
    }

    /** "MISSING and no leaf at all are NOTHING here"; "a leaf WITH ITEMS of there that is the SAME as one of here" */
    private static void lookups() {
        String[] there = {"{j: null, n: 0}", "{n: 1}", "{j: [], n: 2}", "{j: [[5]], n: 3}", "{j: [5], n: 4}", "{j: 5L, n: 5}",
            "{j: [null], n: 6}", "{j: {i: 5}, n: 7}"};
        String[][] looked = {{"", "0, 1, 6"}, {"k: null", "0, 1, 6"}, {"k: 5", "4, 5"}, {"k: [5]", "3, 4, 5"}, {"k: [[5]]", "3, 4"},
            {"k: []", "2"}, {"k: [null]", "0, 1, 6"}, {"k: [[]]", "2"}, {"k: {i: 5L}", "7"}, {"k: 0", ""}, {"k: ['x', 5, null]",
            "0, 1, 4, 5, 6"}};
        for (String[] one : looked) {
            stand("{" + one[0] + "}");
            other(there);
            gives("{$lookup: {here: 'k', there: 'j', as: 'o'}}, {$project: {o: '$o.n'}}", "{o: [" + one[1] + "]}");
        }
        // no leaf at all, of one or of both
        stand("{k: [1]}");
        other("{j: [1], n: 0}", "{j: [{i: null}], n: 1}", "{j: [{i: 1}], n: 2}", "{j: [], n: 3}", "{n: 4}");
        gives("{$lookup: {here: 'k.z', there: 'j.i', as: 'o'}}, {$project: {o: '$o.n'}}", "{o: [0, 1, 3, 4]}");
        // in place of its own, or behind the others
        stand("{o: 1, k: 1}", "{k: 1, o: {x: [1]}, z: 1}", "{k: 1}", "{}");
        other("{j: 1}");
        gives("{$lookup: {here: 'k', there: 'j', as: 'o'}}", "{o: [{j: 1}], k: 1}", "{k: 1, o: [{j: 1}], z: 1}",
            "{k: 1, o: [{j: 1}]}", "{o: []}");
        gives("{$lookup: {here: 'k', there: 'j', as: 'k'}}", "{o: 1, k: [{j: 1}]}", "{k: [{j: 1}], o: {x: [1]}, z: 1}",
            "{k: [{j: 1}]}", "{k: []}");
        // belt 1 has the other shelf's documents at each stage, whatever becomes of belt 0
        gives("{$limit: 1}, {$lookup: {here: 'k', there: 'j', as: 'o'}}, {$lookup: {here: 'k', there: 'j', as: 'p'}}",
            "{o: [{j: 1}], k: 1, p: [{j: 1}]}");
        Docs.asks(house, "{pipeline: [{$lookup: {here: 'j', there: 'k', as: 'o'}}, {$project: {o: '$o.z'}}], shelf: 1}",
            "{many: 1, found: [{o: [1]}]}");
    }

    /** "a document with three elements here, there, as, in this order, texts: a path, a path, a PLAIN name" */
    private static void lookupForms() {
        stand("{a: 1}");
        for (String value : new String[] {"{}", "{here: 'a', there: 'a'}", "{here: 'a', there: 'a', as: 'x', y: 1}", "[]",
            "{there: 'a', here: 'a', as: 'x'}", "{here: 'a', as: 'x', there: 'a'}", "{Here: 'a', there: 'a', as: 'x'}",
            "{here: 'a', There: 'a', as: 'x'}", "{here: 'a', there: 'a', As: 'x'}", "'text'", "{here: '', there: 'a', as: ''}",
            "{here: 'a', there: '.', as: '$x'}"}) {
            fault(32, "{$lookup: " + value + "}", 0);
        }
        // a number whose bytes look like a text's is none
        for (String value : new String[] {"1", "418564800516L", "null", "true", "{}", "['a']", "{a: 1}"}) {
            fault(32, "{$lookup: {here: " + value + ", there: 'a', as: 'x'}}", 0);
            fault(32, "{$lookup: {here: 'a', there: " + value + ", as: 'x'}}", 0);
            fault(32, "{$lookup: {here: 'a', there: 'a', as: " + value + "}}", 0);
        }
        fault(33, "{$lookup: {here: '', there: 'a', as: 'x'}}", 0);
        fault(33, "{$lookup: {here: 'a', there: '$a', as: 'x'}}", 0);
    }

    /** "2 and 3 as they come, of one element 2 ahead of 3"; "how many elements there are first" */
    private static void whichFault() {
        stand("{a: 1}");
        fault(33, "{$project: {x: '$', .: 1}}", 0);
        fault(32, "{$project: {.: 1, x: '$'}}", 0);
        fault(32, "{$project: {.: '$'}}", 0);
        fault(33, "{$group: {by: '$', .: 1}}", 0);
        fault(32, "{$group: {b: '$'}}", 0);
        fault(32, "{$group: {by: 1, .: {$sum: '$'}}}", 0);
        fault(32, "{$group: {by: 1, x: {$foo: '$'}}}", 0);
        fault(32, "{$group: {by: 1, x: {$count: '$'}}}", 0);
        fault(33, "{$group: {by: 1, x: {$sum: '$'}, y: {$foo: 1}}}", 0);
        fault(32, "{$group: {by: 1, x: {$foo: 1}, y: {$sum: '$'}}}", 0);
        fault(33, "{$sort: {.: 1, a: 0}}", 0);
        fault(32, "{$sort: {a: 0, .: 1}}", 0);
        fault(32, "{$sort: {.: 0}}", 0);
        fault(32, "{$sort: {.: 1, a: 1, b: 1, c: 1, d: 1}}", 0);
        // each stage in its turn: the first one that has a fault, also one of what it makes
        String big = "{$project: {x: " + text(900) + ", y: '$a'}}, {$group: {by: 1, p: {$push: '$x'}, q: {$first: '$x'}, r: {$max: '$x'}}}";
        fault(35, big + ", {$foo: 1}", 1);
        fault(31, "{$foo: 1}, " + big, 0);
        Docs.faultAt(house, "{pipeline: [" + big + ", {$match: {$foo: 1}}], shelf: 0}", 35, "1");
        Docs.faultAt(house, "{pipeline: [{$match: {$foo: 1}}, " + big + "], shelf: 0}", 11, "$foo");
        Docs.faultAt(house, "{pipeline: [{$limit: 0}, {$match: {b: {$size: -1}}}, " + big + "], shelf: 0}", 14, "$size");
    }

    /** What stages give, which is one document, or fault 35 when it would have more than 2,000 bytes. */
    private static void givesOrIsTooMuch(String stages, int item, String due) {
        if (Docs.bytes(due).length <= 2000) {
            gives(stages, due);
        } else {
            fault(35, stages, item);
        }
    }

    /** "5: .. one of them has more than 2,000 bytes" */
    private static void tooManyBytes() {
        String a = text(900);
        for (int more = 0; more < 2; more++) {
            stand("{a: " + a + ", k: 7}");
            // 5 + (3 + 5 + 3 + 905) + (3 + 905) + (3 + 5 + n)
            String last = text(2000 - 5 - 916 - 908 - 8 + more);
            String due = "{p: [" + a + "], q: " + a + ", r: " + last + "}";
            Docs.due("bytes of a document", Docs.bytes(due).length, 2000 + more);
            givesOrIsTooMuch("{$group: {by: null, p: {$push: '$a'}, q: {$min: '$a'}}}, {$project: {p: true, q: true, r: "
                + last + "}}", 1, due);
            // 5 + (3 + 905) + (3 + 905) + (3 + 5 + n)
            last = text(2000 - 5 - 908 - 908 - 8 + more);
            due = "{x: " + a + ", y: " + a + ", z: " + last + "}";
            Docs.due("bytes of a document", Docs.bytes(due).length, 2000 + more);
            givesOrIsTooMuch("{$project: {x: '$a', y: '$a', z: " + last + "}}", 0, due);
            // 5 + (4 + 5 + n) + 916 + 908
            String by = text(2000 - 5 - 9 - 916 - 908 + more);
            due = "{by: " + by + ", x: [" + a + "], y: " + a + "}";
            Docs.due("bytes of a document", Docs.bytes(due).length, 2000 + more);
            givesOrIsTooMuch("{$group: {by: " + by + ", x: {$addToSet: '$a'}, y: {$last: '$a'}}}", 0, due);
            // 5 + (3 + 905) + (3 + 4) + (3 + 5 + 3 + 5 + 3 + 5 + n)
            String j = text(2000 - 5 - 908 - 7 - 24 + more);
            other("{j: " + j + "}");
            due = "{a: " + a + ", k: 7, o: [{j: " + j + "}]}";
            Docs.due("bytes of a document", Docs.bytes(due).length, 2000 + more);
            givesOrIsTooMuch("{$lookup: {here: 'zz', there: 'zz', as: 'o'}}", 0, due);
        }
    }

    private static String nested(int deep) {
        String value = "{}";
        for (int i = 1; i < deep; i++) {
            value = "{a: " + value + "}";
        }
        return value;
    }

    /** "or is more than 16 deep" */
    private static void tooDeep() {
        stand("{a: " + nested(13) + "}");
        gives("{$project: {x: '$a', y: {z: 1}}}", "{x: " + nested(13) + ", y: {z: 1}}");
        gives("{$group: {by: 1, p: {$push: '$a'}}}, {$group: {by: 1, p: {$push: '$p'}}}", "{by: 1, p: [[" + nested(13) + "]]}");
        fault(35, "{$group: {by: 1, p: {$push: '$a'}}}, {$group: {by: 1, p: {$push: '$p'}}}, {$group: {by: 1, p: {$push: '$p'}}}", 2);
        fault(35, "{$group: {by: 1, p: {$push: '$a'}}}, {$group: {by: 1, p: {$addToSet: '$p'}}}, {$group: {by: 1, p: {$addToSet: '$p'}}}",
            2);
        gives("{$group: {by: 1, p: {$push: '$a'}}}, {$group: {by: 1, p: {$push: '$p'}}}, {$group: {by: '$p'}}",
            "{by: [[" + nested(13) + "]]}");
        other("{a: " + nested(13) + "}");
        gives("{$lookup: {here: 'x', there: 'x', as: 'o'}}", "{a: " + nested(13) + ", o: [{a: " + nested(13) + "}]}");
        stand("{a: 1}");
        other("{a: 1}");
        Docs.asks(house, "{update: {}, shelf: 1, change: {$set: {b.b.b.b: " + nested(10) + "}}}", "{many: 1, changed: 1}");
        gives("{$lookup: {here: 'a', there: 'a', as: 'o'}}", "{a: 1, o: [{a: 1, b: {b: {b: {b: " + nested(10) + "}}}}]}");
        Docs.asks(house, "{update: {}, shelf: 1, change: {$set: {b.b.b.b: " + nested(11) + "}}}", "{many: 1, changed: 1}");
        fault(35, "{$lookup: {here: 'a', there: 'a', as: 'o'}}", 0);
        gives("{$lookup: {here: 'a', there: 'b', as: 'o'}}", "{a: 1, o: []}");
    }

    /** "at most 200, with at most 40,000 bytes in all"; "5: there would be more than 200 documents, .. or all .. 40,000" */
    private static void tooMany() {
        String count = "{$group: {by: 1, n: {$count: null}}}";
        StringBuilder items = new StringBuilder("[0");
        for (int i = 1; i < 100; i++) {
            items.append(", ").append(i);
        }
        stand("{a: " + items + "]}", "{a: " + items + "]}");
        gives("{$unwind: '$a'}, " + count, "{by: 1, n: 200L}");
        gives("{$unwind: '$a'}, {$skip: 199}", "{a: 99}");
        gives("{$unwind: '$a'}, {$group: {by: '$a', n: {$count: null}}}, {$match: {n: 2}}, " + count, "{by: 1, n: 100L}");
        Docs.asks(house, "{insert: {a: 1}, shelf: 0}", "{number: 3}");
        fault(35, "{$unwind: '$a'}, " + count, 0);
        gives("{$match: {a: {$size: 100}}}, {$unwind: '$a'}, " + count, "{by: 1, n: 200L}");
        gives("{$skip: 1}, {$unwind: '$a'}, " + count, "{by: 1, n: 101L}");
        // 200 documents of 200 bytes: {a: 7, x: text(n)} has 5 + 7 + 8 + n
        stand("{a: " + items + "]}", "{a: " + items + "]}");
        String project = "{$unwind: '$a'}, {$project: {a: 7, x: " + text(180) + "}}, ";
        gives(project + count, "{by: 1, n: 200L}");
        gives(project + "{$project: {b: '$x', a: '$a'}}, {$sort: {a: 1}}, {$match: {a: 7}}, {$skip: 0}, {$limit: 200}, " + count,
            "{by: 1, n: 200L}");
        fault(35, "{$unwind: '$a'}, {$project: {a: 7, x: " + text(181) + "}}, " + count, 1);
        fault(35, project + "{$project: {aa: '$a', x: '$x'}}", 2);
        gives("{$unwind: '$a'}, {$limit: 199}, {$project: {a: 7, x: " + text(181) + "}}, " + count, "{by: 1, n: 199L}");
        // 40,000 bytes by one document that is longer than the others, and one more
        stand("{a: " + items + "]}", "{a: " + items.toString().replace("[0,", "['x',") + "]}");
        // ['x'] has 6 bytes in place of 4: documents of 12 bytes with a alone, one with 14
        gives("{$unwind: '$a'}, {$project: {a: true, x: " + text(179) + "}}, " + count, "{by: 1, n: 200L}");
        fault(35, "{$unwind: '$a'}, {$project: {a: true, x: " + text(180) + "}}, " + count, 1);
        gives("{$unwind: '$a'}, {$match: {a: {$gte: 0}}}, {$project: {a: true, x: " + text(180) + "}}, " + count, "{by: 1, n: 199L}");
    }

    /** Two full belts, and a stage that makes belt 0 anew from them. */
    private static void fullBelts() {
        house = new DocumentHouse();
        for (int i = 1; i <= 200; i++) {
            Docs.ask(house, "{insert: {n: " + i + "}, shelf: 0}");
            Docs.ask(house, "{insert: {m: " + i + "}, shelf: 1}");
        }
        gives("{$sort: {n: -1}}, {$limit: 2}, {$lookup: {here: 'n', there: 'm', as: 'o'}}", "{n: 200, o: [{m: 200}]}",
            "{n: 199, o: [{m: 199}]}");
        gives("{$lookup: {here: 'n', there: 'm', as: 'o'}}, {$skip: 199}", "{n: 200, o: [{m: 200}]}");
        gives("{$group: {by: '$n', p: {$push: '$n'}}}, {$skip: 198}", "{by: 199, p: [199]}", "{by: 200, p: [200]}");
        gives("{$group: {by: 1, s: {$sum: '$n'}, x: {$max: '$n'}, m: {$min: '$n'}}}", "{by: 1, s: 20100L, x: 200, m: 1}");
        // all of belt 1 in a row of one document: 200 times a head of 3 to 5 bytes and 12 are more than 2,000
        fault(35, "{$limit: 1}, {$lookup: {here: 'x', there: 'x', as: 'o'}}", 1);
        Docs.due("documents", house.state(0) + house.state(1), 400);
        // with 40,000 bytes on the shelf: {n, x: text(180)} has 200
        Docs.asks(house, "{update: {}, shelf: 0, change: {$set: {x: " + text(180) + "}}}", "{many: 200, changed: 200}");
        Docs.due("bytes", house.state(2), 40000);
        String count = "{$group: {by: 1, n: {$count: null}}}";
        gives("{$project: {n: true, x: true}}, " + count, "{by: 1, n: 200L}");
        gives("{$project: {x: '$x', y: '$n'}}, {$project: {y: true, x: true}}, {$unwind: '$x'}, " + count, "{by: 1, n: 200L}");
        fault(35, "{$project: {n: true, xx: '$x'}}", 0);
        fault(35, "{$lookup: {here: 'n', there: 'zz', as: 'o'}}", 0);
        gives("{$lookup: {here: 'n', there: 'm', as: 'x'}}, {$limit: 1}", "{n: 1, x: [{m: 1}]}");
    }

    /** "at a row a row of the VALUES": of all documents of a full belt, for the KEY and for an element of a group. */
    private static void manyRowsOfValues() {
        String[] documents = new String[42];
        for (int i = 0; i < documents.length; i++) {
            documents[i] = "{n: " + i + "}";
        }
        stand(documents);
        String a = text(900);
        Docs.asks(house, "{update: {}, shelf: 0, change: {$set: {a: [{b: " + a + "}]}}}", "{many: 42, changed: 42}");
        // {n, a: [{b: text(900)}]} has 5 + 7 + 3 + 5 + 3 + 5 + 3 + 905
        Docs.due("bytes", house.state(2), 42 * 936);
        gives("{$group: {by: '$a.b', l: {$last: '$a.b'}}}", "{by: [" + a + "], l: [" + a + "]}");
        gives("{$group: {by: '$a.b', s: {$sum: '$n'}, m: {$max: '$a.b'}}}", "{by: [" + a + "], s: 861L, m: [" + a + "]}");
        gives("{$group: {by: '$n', l: {$first: '$a.b'}}}, {$skip: 41}", "{by: 41, l: [" + a + "]}");
    }

    public static void main(String[] args) {
        notOneElement();
        emptyBelts();
        plainNames();
        projects();
        unwinds();
        groups();
        sums();
        sorts();
        sortKeys();
        skipsAndLimits();
        lookups();
        lookupForms();
        whichFault();
        tooManyBytes();
        tooDeep();
        tooMany();
        fullBelts();
        manyRowsOfValues();
        Docs.end();
    }
}
