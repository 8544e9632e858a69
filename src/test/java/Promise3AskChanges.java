/** Promise 3, Part IV: changes, what they do and their faults, 21 to 29. */
public final class Promise3AskChanges {
    private static DocumentHouse house = new DocumentHouse();

    /** What a change makes of a document; how many it changed is told, too. */
    private static void becomes(String document, String change, String due) {
        Docs.ask(house, "{delete: {}, shelf: 0}");
        Docs.ask(house, "{insert: " + document + ", shelf: 0}");
        String got = Docs.ask(house, "{update: {}, shelf: 0, change: " + change + "}");
        int changed = document.equals(due) ? 0 : 1;
        Docs.due(change + " of " + document, got, "{many: 1, changed: " + changed + "}");
        String all = Docs.ask(house, "{pipeline: [], shelf: 0}");
        Docs.due(change + " of " + document, all, "{many: 1, found: [" + due + "]}");
        Docs.due("bytes", house.state(2), Docs.bytes(due).length);
    }

    private static void stays(String document, String change) {
        becomes(document, change, document);
    }

    private static void fault(int fault, String document, String change, String name) {
        fault(fault, document, change, name, 1);
    }

    private static void fault(int fault, String document, String change, String name, int times) {
        Docs.ask(house, "{delete: {}, shelf: 0}");
        Docs.ask(house, "{insert: " + document + ", shelf: 0}");
        Docs.faultAt(house, "{update: {}, shelf: 0, change: " + change + "}", fault, name, times);
        String all = Docs.ask(house, "{pipeline: [], shelf: 0}");
        Docs.due(change + " of " + document, all, "{many: 1, found: [" + document + "]}");
    }

    private static void sets() {
        becomes("{}", "{$set: {a: 1}}", "{a: 1}");
        becomes("{a: 1, b: 2}", "{$set: {a: 'x'}}", "{a: 'x', b: 2}");
        becomes("{a: 1, b: 2}", "{$set: {b: [1, {c: 2}], d: null}}", "{a: 1, b: [1, {c: 2}], d: null}");
        stays("{a: 1, b: 2}", "{$set: {a: 1, b: 2}}");
        becomes("{a: 1}", "{$set: {a: 1L}}", "{a: 1L}");
        becomes("{a: [true]}", "{$set: {a: [false]}}", "{a: [false]}");
        becomes("{a: {b: 'x'}}", "{$set: {a: []}}", "{a: []}");
        becomes("{a: {}}", "{$set: {a: []}}", "{a: []}");
        becomes("{a: {b: 1}, z: 0}", "{$set: {a.c: 2}}", "{a: {b: 1, c: 2}, z: 0}");
        becomes("{a: {b: 1}}", "{$set: {a.b: {}}}", "{a: {b: {}}}");
        becomes("{z: 0}", "{$set: {a.b.c: 2}}", "{z: 0, a: {b: {c: 2}}}");
        becomes("{}", "{$set: {a.b.c.d.e.f.g.h: 2}}", "{a: {b: {c: {d: {e: {f: {g: {h: 2}}}}}}}}");
        becomes("{a: [1, 2, 3]}", "{$set: {a.1: 'x'}}", "{a: [1, 'x', 3]}");
        becomes("{a: [1, 2, 3]}", "{$set: {a.3: 4}}", "{a: [1, 2, 3, 4]}");
        becomes("{a: []}", "{$set: {a.0: 4}}", "{a: [4]}");
        becomes("{a: []}", "{$set: {a.0.b: 4}}", "{a: [{b: 4}]}");
        becomes("{a: [0]}", "{$set: {a.1.0: 4}}", "{a: [0, {0: 4}]}");
        becomes("{a: [{b: 1}, {b: 2}]}", "{$set: {a.1.b: 5, a.0.c: 6}}", "{a: [{b: 1, c: 6}, {b: 5}]}");
        becomes("{}", "{$set: {a.0: 4}}", "{a: {0: 4}}");
        becomes("{}", "{$set: {$a.$b: 4}}", "{$a: {$b: 4}}");
        becomes("{a: [0, 0, 0, 0, 0, 0, 0, 0, 0, 0]}", "{$set: {a.10: 1}}", "{a: [0, 0, 0, 0, 0, 0, 0, 0, 0, 0, 1]}");
        becomes("{}", "{$set: {a.x: 1, a.y: 2}}", "{a: {x: 1, y: 2}}");
        becomes("{}", "{$set: {b: 1}, $push: {c: 1}, $inc: {d: 1}}", "{b: 1, c: [1], d: 1}");
        fault(26, "{a: 1}", "{$set: {a.b: 1}}", "a.b");
        fault(26, "{a: null}", "{$set: {x: 1, a.b.c: 1}}", "a.b.c");
        fault(26, "{a: 'x'}", "{$set: {a.0: 1}}", "a.0");
        fault(26, "{a: [1]}", "{$set: {a.b: 1}}", "a.b");
        fault(26, "{a: [1]}", "{$set: {a.2: 1}}", "a.2");
        fault(26, "{a: [1]}", "{$set: {a.01: 1}}", "a.01");
        fault(26, "{a: [1]}", "{$set: {a.00: 1}}", "a.00");
        fault(26, "{a: [1]}", "{$set: {a.-1: 1}}", "a.-1");
        fault(26, "{a: [1]}", "{$set: {a.4294967297: 1}}", "a.4294967297");
        fault(26, "{a: [1]}", "{$set: {a.0.b: 1}}", "a.0.b");
        fault(26, "{a: [{}]}", "{$set: {a.b.c: 1}}", "a.b.c");
        fault(26, "{a: true}", "{$inc: {a.b: 1}}", "a.b");
        fault(26, "{a: 5}", "{$push: {a.b: 1}}", "a.b");
        fault(26, "{a: 5}", "{$addToSet: {a.b: 1}}", "a.b");
    }

    private static void unsets() {
        becomes("{a: 1, b: 2, c: 3}", "{$unset: {b: null}}", "{a: 1, c: 3}");
        becomes("{a: 1}", "{$unset: {a: {x: 1}}}", "{}");
        becomes("{a: {b: {c: 1}, d: 2}}", "{$unset: {a.b: 1}}", "{a: {d: 2}}");
        becomes("{a: {b: 1}}", "{$unset: {a.b: 1}}", "{a: {}}");
        becomes("{a: [1, 'x', 3]}", "{$unset: {a.1: 1}}", "{a: [1, null, 3]}");
        becomes("{a: [{b: 1, c: 2}]}", "{$unset: {a.0.b: 1}}", "{a: [{c: 2}]}");
        becomes("{a: [true]}", "{$unset: {a.0: 1}}", "{a: [null]}");
        stays("{a: [null]}", "{$unset: {a.0: 1}}");
        stays("{a: [1], b: 2}", "{$unset: {a.1: 1, a.b: 1, b.c: 1, d: 1, e.f.g: 1, a.00: 1}}");
        stays("{}", "{$unset: {a: 1}}");
    }

    private static void incs() {
        becomes("{a: 1}", "{$inc: {a: 2}}", "{a: 3}");
        becomes("{a: 1}", "{$inc: {a: -2}}", "{a: -1}");
        becomes("{}", "{$inc: {a: 2, b.c: 3L}}", "{a: 2, b: {c: 3L}}");
        becomes("{a: [1]}", "{$inc: {a.0: 5, a.1: 7}}", "{a: [6, 7]}");
        becomes("{a: 1, z: 9}", "{$inc: {a: 2L}}", "{a: 3L, z: 9}");
        becomes("{a: 1L}", "{$inc: {a: 2}}", "{a: 3L}");
        becomes("{a: 1L}", "{$inc: {a: 2L}}", "{a: 3L}");
        stays("{a: 1}", "{$inc: {a: 0}}");
        stays("{a: 1L}", "{$inc: {a: 0}}");
        becomes("{a: 1}", "{$inc: {a: 0L}}", "{a: 1L}");
        becomes("{a: 2147483647}", "{$inc: {a: 0L}}", "{a: 2147483647L}");
        becomes("{a: 2147483647}", "{$inc: {a: 1}}", "{a: 2147483648L}");
        becomes("{a: -2147483648}", "{$inc: {a: -1}}", "{a: -2147483649L}");
        becomes("{a: 2147483646}", "{$inc: {a: 1}}", "{a: 2147483647}");
        becomes("{a: -2147483648}", "{$inc: {a: 2147483647}}", "{a: -1}");
        becomes("{a: 2147483648L}", "{$inc: {a: -1}}", "{a: 2147483647L}");
        becomes("{a: 9223372036854775806L}", "{$inc: {a: 1}}", "{a: 9223372036854775807L}");
        becomes("{a: -9223372036854775808L}", "{$inc: {a: 9223372036854775807L}}", "{a: -1L}");
        fault(28, "{a: 9223372036854775807L}", "{$inc: {a: 1}}", "a");
        fault(28, "{a: -9223372036854775808L}", "{$inc: {b: 1, a: -1}}", "a");
        fault(28, "{a: 1}", "{$inc: {a: 9223372036854775807L}}", "a");
        fault(28, "{a: -9223372036854775808L}", "{$inc: {a: -9223372036854775808L}}", "a");
        for (String value : new String[] {"'x'", "null", "true", "{}", "[]", "[1]"}) {
            fault(27, "{a: " + value + "}", "{$inc: {b: 1, a: 1}}", "a");
        }
    }

    private static void pushes() {
        becomes("{a: [1]}", "{$push: {a: 2}}", "{a: [1, 2]}");
        becomes("{a: [1]}", "{$push: {a: 1}}", "{a: [1, 1]}");
        becomes("{a: []}", "{$push: {a: [2]}}", "{a: [[2]]}");
        becomes("{}", "{$push: {a: 2, b.c: null}}", "{a: [2], b: {c: [null]}}");
        becomes("{a: [[1]]}", "{$push: {a.0: 2}}", "{a: [[1, 2]]}");
        becomes("{a: [[1]]}", "{$push: {a.1: 2}}", "{a: [[1], [2]]}");
        becomes("{a: [0, 0, 0, 0, 0, 0, 0, 0, 0, 0], b: 1}", "{$push: {a: 5}}",
            "{a: [0, 0, 0, 0, 0, 0, 0, 0, 0, 0, 5], b: 1}");
        becomes("{a: [1]}", "{$addToSet: {a: 2}}", "{a: [1, 2]}");
        stays("{a: [1, 2]}", "{$addToSet: {a: 2}}");
        stays("{a: [1, 2L]}", "{$addToSet: {a: 2}}");
        stays("{a: [1, {b: [3]}]}", "{$addToSet: {a: {b: [3L]}}}");
        becomes("{a: [1, null]}", "{$addToSet: {a: false}}", "{a: [1, null, false]}");
        becomes("{a: [[1]]}", "{$addToSet: {a: 1}}", "{a: [[1], 1]}");
        becomes("{}", "{$addToSet: {a: [1]}}", "{a: [[1]]}");
        for (String value : new String[] {"'x'", "null", "true", "{}", "1", "{0: 1}"}) {
            fault(27, "{a: " + value + "}", "{$set: {b: 1}, $push: {a: 1}}", "a");
            fault(27, "{a: " + value + "}", "{$set: {b: 1}, $addToSet: {a: 1}}", "a");
            fault(27, "{a: " + value + "}", "{$set: {b: 1}, $pull: {a: 1}}", "a");
        }
    }

    private static void pulls() {
        becomes("{a: [1, 2, 1, 3]}", "{$pull: {a: 1}}", "{a: [2, 3]}");
        becomes("{a: [1, 1L], b: 5}", "{$pull: {a: 1}}", "{a: [], b: 5}");
        stays("{a: [1, [2]]}", "{$pull: {a: 2}}");
        becomes("{a: [1, [2]]}", "{$pull: {a: [2L]}}", "{a: [1]}");
        becomes("{a: [{b: 1}, {b: 1, c: 2}]}", "{$pull: {a: {b: 1}}}", "{a: [{b: 1, c: 2}]}");
        becomes("{a: {b: [null, true]}}", "{$pull: {a.b: null}}", "{a: {b: [true]}}");
        becomes("{a: [[1, 2], 3]}", "{$pull: {a.0: 1}}", "{a: [[2], 3]}");
        stays("{a: [1]}", "{$pull: {a.1: 1, b: 1, c.d.e: 1, a.x: 1}}");
        stays("{a: 5}", "{$pull: {a.b: 1}}");
        // the others move up: their names get shorter, too
        StringBuilder from = new StringBuilder("{a: [7, 7");
        StringBuilder due = new StringBuilder("{a: [");
        for (int i = 0; i < 110; i++) {
            from.append(i % 5 == 0 ? ", 7, " : ", ").append(i + 100);
            due.append(i > 0 ? ", " : "").append(i + 100);
        }
        becomes(from + "], z: 'end'}", "{$pull: {a: 7}}", due + "], z: 'end'}");
    }

    private static void standingFaults() {
        String d = "{a: 1}";
        fault(21, d, "{$foo: {a: 1}}", "$foo");
        fault(21, d, "{a: 1}", "a");
        fault(21, d, "{$set: {b: 1}, $sets: 1}", "$sets");
        for (String operator : new String[] {"$set", "$unset", "$inc", "$push", "$pull", "$addToSet"}) {
            for (String value : new String[] {"1", "null", "[]", "'a'", "true"}) {
                fault(22, d, "{" + operator + ": " + value + "}", operator);
            }
            for (String path : new String[] {"''", ".", "b.", ".b", "b..c", "b.c.d.e.f.g.h.i.j"}) {
                fault(23, d, "{" + operator + ": {x: 1, " + path + ": 1}}", path.equals("''") ? "" : path);
            }
        }
        for (String value : new String[] {"'1'", "null", "[]", "{}", "true"}) {
            fault(24, d, "{$inc: {b: 1, c: " + value + "}}", "c");
        }
        fault(25, d, "{$set: {b: 1}, $inc: {b: 1}}", "b", 2);
        fault(25, d, "{$set: {b.c: 1, b: 1}}", "b");
        fault(25, d, "{$set: {b: 1, b.c: 1}}", "b.c");
        fault(25, d, "{$set: {b: 1}, $unset: {c: 1, b.c.d: 1}}", "b.c.d");
        fault(25, d, "{$set: {b.c.d: 1}, $push: {b.c: 1}}", "b.c");
        fault(25, d, "{$set: {b: 1, c: 1, c.d: 1}}", "c.d");
        fault(25, d, "{$set: {b: 1}, $inc: {c: 1, e: 1}, $pull: {d: 1, c.x: 1}}", "c.x");
        fault(25, d, "{$set: {b.c: 1, x: 1, b.c.d: 1, b: 1}}", "b.c.d");
        becomes("{}", "{$set: {b: 1, bc: 1, c.b: 1, c.bc: 1, b0: 1}}", "{b: 1, bc: 1, c: {b: 1, bc: 1}, b0: 1}");
        becomes("{a: [0, 0]}", "{$set: {a.0: 1, a.1: 2, a.2: 3}}", "{a: [1, 2, 3]}");
        // of several at one place the first named
        fault(23, d, "{$inc: {.: 'x'}}", ".");
        fault(24, d, "{$set: {b: 1}, $inc: {b: 'x'}}", "b", 2);
        fault(21, d, "{$foo: 1}", "$foo");
        fault(25, d, "{$set: {b: 1, b.c: 1}, $foo: 1}", "b.c");
        // they are faults without a document to change, and behind a filter's
        Docs.ask(house, "{delete: {}, shelf: 0}");
        Docs.faultAt(house, "{update: {}, shelf: 0, change: {$foo: 1}}", 21, "$foo");
        Docs.faultAt(house, "{update: {$bad: 1}, shelf: 0, change: {$foo: 1}}", 11, "$bad");
    }

    private static String text(int n) {
        return "'" + "x".repeat(n) + "'";
    }

    private static void tooMuch() {
        // {a: ''} has 4 + 3 + 5 + 1 = 13 bytes
        becomes("{a: " + text(1000) + "}", "{$set: {b: " + text(2000 - 1013 - 8) + "}}",
            "{a: " + text(1000) + ", b: " + text(2000 - 1013 - 8) + "}");
        fault(29, "{a: " + text(1000) + "}", "{$set: {b: " + text(2000 - 1013 - 7) + "}}", "change");
        // only when all paths are done
        becomes("{a: " + text(1500) + "}", "{$set: {b: " + text(600) + "}, $unset: {a: 1}}", "{b: " + text(600) + "}");
        fault(27, "{a: " + text(1500) + ", c: 1}", "{$set: {b: " + text(600) + "}, $push: {c: 1}}", "c");
        // at most 16 deep: a.b.c.d.e.f.g is 7, its value up to 9
        String nine = "{0: {0: {0: {0: {0: {0: {0: {0: {}}}}}}}}}";
        String ten = "{0: " + nine + "}";
        String wrap = "{a: {b: {c: {d: {e: {f: {g: V}}}}}}}";
        becomes("{}", "{$set: {a.b.c.d.e.f.g: " + nine + "}}", wrap.replace("V", nine));
        fault(29, "{}", "{$set: {a.b.c.d.e.f.g: " + ten + "}}", "change");
        fault(29, "{}", "{$push: {a.b.c.d.e.f.g: " + nine + "}}", "change");
        becomes("{a: {b: {c: {d: {e: {f: {}}}}}}}", "{$push: {a.b.c.d.e.f.g: {}}}", wrap.replace("V", "[{}]"));
    }

    private static void several() {
        house = new DocumentHouse();
        for (int i = 1; i <= 4; i++) {
            Docs.asks(house, "{insert: {k: " + i + ", a: [" + i + "]}, shelf: 0}", "{number: " + i + "}");
        }
        Docs.asks(house, "{insert: {k: 9, a: 9}, shelf: 0}", "{number: 5}");
        Docs.asks(house, "{update: {k: {$lt: 4}}, shelf: 0, change: {$addToSet: {a: 2}}}", "{many: 3, changed: 2}");
        Docs.asks(house, "{find: {}, shelf: 0}", "{many: 5, found: [{number: 1, is: {k: 1, a: [1, 2]}}, "
            + "{number: 2, is: {k: 2, a: [2]}}, {number: 3, is: {k: 3, a: [3, 2]}}, "
            + "{number: 4, is: {k: 4, a: [4]}}, {number: 5, is: {k: 9, a: 9}}]}");
        // done to all or to none, the fault of the first document where there is one
        Docs.faultAt(house, "{update: {}, shelf: 0, change: {$set: {k: 0}, $push: {a: 7}}}", 27, "a");
        Docs.asks(house, "{count: {k: 0}, shelf: 0}", "{many: 0}");
        Docs.asks(house, "{count: {a: 7}, shelf: 0}", "{many: 0}");
        Docs.asks(house, "{update: {k: 1}, shelf: 0, change: {$set: {b: " + text(1000) + "}}}", "{many: 1, changed: 1}");
        String request = "{update: {}, shelf: 0, change: {$set: {c: " + text(960) + "}, $push: {a: 7}}}";
        Docs.faultAt(house, request, 29, "change");
        Docs.faultAt(house, request.replace("update: {}", "update: {k: {$ne: 1}}"), 27, "a");
        Docs.asks(house, "{update: {a: 2}, shelf: 0, change: {$set: {a: 2}}}", "{many: 3, changed: 3}");
        Docs.asks(house, "{update: {a: 2}, shelf: 0, change: {$unset: {a: 1}}}", "{many: 3, changed: 3}");
        Docs.asks(house, "{update: {}, shelf: 0, change: {$unset: {a: 1}}}", "{many: 5, changed: 2}");
        Docs.asks(house, "{update: {k: 77}, shelf: 0, change: {$unset: {k: 1}}}", "{many: 0, changed: 0}");
        Docs.asks(house, "{update: {}, shelf: 1, change: {$unset: {k: 1}}}", "{many: 0, changed: 0}");
    }

    public static void main(String[] args) {
        sets();
        unsets();
        incs();
        pushes();
        pulls();
        house = new DocumentHouse();
        standingFaults();
        tooMuch();
        several();
        Docs.end();
    }
}
