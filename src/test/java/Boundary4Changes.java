/** Promise 3, Part IV, sentence by sentence: changes at their edges, and what can't be done, which changes nothing. */
public final class Boundary4Changes {
    private static DocumentHouse house;

    private static void insert(String document) {
        house = new DocumentHouse();
        Docs.asks(house, "{insert: " + document + ", shelf: 0}", "{number: 1}");
        Docs.stand(house, 0, document);
    }

    private static void becomes(String document, String change, String due) {
        insert(document);
        int changed = document.equals(due) ? 0 : 1;
        Docs.asks(house, "{update: {}, shelf: 0, change: " + change + "}", "{many: 1, changed: " + changed + "}");
        Docs.stand(house, 0, due);
        Docs.due("its NUMBER", house.number(0, 0), 1);
    }

    private static void stays(String document, String change) {
        becomes(document, change, document);
    }

    /** A fault that is the same with a document ahead for which the change can be done: that one stays, too. */
    private static void fault(int fault, String document, String change, String name, int times) {
        insert(document);
        Docs.faultAt(house, "{update: {}, shelf: 0, change: " + change + "}", fault, name, times);
        Docs.stand(house, 0, document);
        if (fault >= 26) {
            house = new DocumentHouse();
            Docs.asks(house, "{insert: {}, shelf: 0}", "{number: 1}");
            Docs.asks(house, "{insert: " + document + ", shelf: 0}", "{number: 2}");
            Docs.faultAt(house, "{update: {}, shelf: 0, change: " + change + "}", fault, name, times);
            Docs.stand(house, 0, "{}", document);
        }
    }

    private static void fault(int fault, String document, String change, String name) {
        fault(fault, document, change, name, 1);
    }

    private static final String[] OPERATORS = {"$set", "$unset", "$inc", "$push", "$pull", "$addToSet"};

    /** "A CHANGE is a document of OPERATORS: its elements' names are .., their values documents" (both may be empty) */
    private static void operators() {
        stays("{a: 1}", "{}");
        for (String operator : OPERATORS) {
            stays("{a: 1}", "{" + operator + ": {}}");
            fault(22, "{a: 1}", "{" + operator + ": []}", operator);
            fault(21, "{a: 1}", "{" + operator + "s: {a: 1}}", operator + "s");
            fault(21, "{a: 1}", "{" + operator.substring(0, operator.length() - 1) + ": 1}",
                operator.substring(0, operator.length() - 1));
            fault(21, "{a: 1}", "{" + operator.substring(1) + ": {}}", operator.substring(1));
        }
        stays("{a: 1}", "{$set: {}, $unset: {}, $inc: {}, $push: {}, $pull: {}, $addToSet: {}}");
        fault(21, "{a: 1}", "{'': {}}", "");
        fault(21, "{a: 1}", "{$: {}}", "$");
    }

    /** "5 a path that is one of those ahead of it .., or begins with all steps of one of them, or one .. with all of its" */
    private static void pathsThatClash() {
        String[][] clashing = {{"a", "a.b"}, {"a", "a.b.c.d.e.f.g.h"}, {"a.b", "a.b.c"}, {"a.0", "a.0.0"},
            {"a.b.c.d.e.f.g", "a.b.c.d.e.f.g.h"}};
        for (String[] two : clashing) {
            for (String operator : OPERATORS) {
                String ahead = operator.equals("$unset") ? "$set" : "$unset";
                String change = "{" + ahead + ": {z: 1, ONE: 1}, " + operator + ": {y: 1, OTHER: 1}}";
                fault(25, "{}", change.replace("ONE", two[0]).replace("OTHER", two[1]), two[1]);
                fault(25, "{}", change.replace("ONE", two[1]).replace("OTHER", two[0]), two[0]);
            }
            fault(25, "{}", "{$set: {" + two[0] + ": 1, y: 1, " + two[1] + ": 1}}", two[1]);
            fault(25, "{}", "{$set: {" + two[0] + ": 1}, $inc: {" + two[0] + ": 1}}", two[0], 2);
        }
        // with one of the same letters, but other steps, it does not
        becomes("{}", "{$set: {a: 1, ab: 2, b.a: 3, b.ab: 4, c.d: 5, c.e: 6, d.c: 7}}",
            "{a: 1, ab: 2, b: {a: 3, ab: 4}, c: {d: 5, e: 6}, d: {c: 7}}");
        becomes("{a: []}", "{$set: {a.0: 1, a.1: 2}}", "{a: [1, 2]}");
        fault(26, "{a: []}", "{$set: {a.0: 1, a.00: 2}}", "a.00");
    }

    /** "at each step but the last one, in a document, if it has no such element, one comes behind the others" */
    private static void whatIsMade() {
        becomes("{z: 1}", "{$set: {a.b.c.d.e.f.g.h: 9}}", "{z: 1, a: {b: {c: {d: {e: {f: {g: {h: 9}}}}}}}}");
        becomes("{z: 1}", "{$inc: {a.0: 9}}", "{z: 1, a: {'0': 9}}");
        becomes("{z: 1}", "{$push: {a.0: 9}}", "{z: 1, a: {'0': [9]}}");
        becomes("{z: {}}", "{$addToSet: {z.a.b: 9}}", "{z: {a: {b: [9]}}}");
        for (String operator : new String[] {"$unset", "$pull"}) {
            stays("{z: 1}", "{" + operator + ": {a.b.c.d.e.f.g.h: 9, z.a: 1}}");
            stays("{z: [1]}", "{" + operator + ": {z.1: 1}}");
            stays("{z: [{}]}", "{" + operator + ": {z.0.a: 1, z.1.a: 1}}");
        }
    }

    /** "in a row, if the number is that of how many items it has, such a document comes behind them"; FAULT 6 */
    private static void rows() {
        StringBuilder row = new StringBuilder("[");
        for (int n = 0; n <= 101; n++) {
            if (n < 3 || n > 8 && n < 12 || n > 98) {
                String comma = n > 0 ? ", " : "";
                String document = "{a: " + row + "], b: 1}";
                becomes(document, "{$set: {a." + n + ": 'x'}}", "{a: " + row + comma + "'x'], b: 1}");
                becomes(document, "{$inc: {a." + n + ": 2L}}", "{a: " + row + comma + "2L], b: 1}");
                becomes(document, "{$push: {a." + n + ": 2}}", "{a: " + row + comma + "[2]], b: 1}");
                becomes(document, "{$addToSet: {a." + n + ": 2}}", "{a: " + row + comma + "[2]], b: 1}");
                becomes(document, "{$set: {a." + n + ".q: 2}}", "{a: " + row + comma + "{q: 2}], b: 1}");
                becomes(document, "{$push: {a: 2}}", "{a: " + row + comma + "2], b: 1}");
                becomes(document, "{$addToSet: {a: 2}}", "{a: " + row + comma + "2], b: 1}");
                for (String operator : new String[] {"$set", "$inc", "$push", "$addToSet"}) {
                    fault(26, document, "{" + operator + ": {a." + (n + 1) + ": 2}}", "a." + (n + 1));
                    fault(26, document, "{" + operator + ": {a." + (n + 1) + ".q: 2}}", "a." + (n + 1) + ".q");
                    fault(26, document, "{" + operator + ": {a.0" + n + ": 2}}", "a.0" + n);
                }
            }
            row.append(n > 0 ? ", 0" : "0");
        }
        for (String step : new String[] {"x", "-0", "-1", "+0", "00", "01", "4294967296", "4294967297", "18446744073709551616",
            "9999999999999999999999", "0x", " 0", "\u0660"}) {
            fault(26, "{a: [0]}", "{$set: {'a." + step + "': 2}}", "a." + step);
            fault(26, "{a: [{}]}", "{$push: {'a." + step + ".b': 2}}", "a." + step + ".b");
            stays("{a: [0]}", "{$unset: {'a." + step + "': 2}}");
            stays("{a: [0]}", "{$pull: {'a." + step + "': 2}}");
        }
    }

    /** "FAULT 6: a step (the last one, too) that stands at neither a document nor a row" */
    private static void stepsThatStandNowhere() {
        for (String value : new String[] {"1", "2L", "'x'", "null", "true"}) {
            for (String operator : new String[] {"$set", "$inc", "$push", "$addToSet"}) {
                fault(26, "{a: " + value + "}", "{" + operator + ": {a.b: 1}}", "a.b");
                fault(26, "{a: " + value + "}", "{" + operator + ": {a.0: 1}}", "a.0");
                fault(26, "{a: {b: " + value + "}}", "{" + operator + ": {x: 1, a.b.c.d: 1}}", "a.b.c.d");
                fault(26, "{a: [" + value + "]}", "{" + operator + ": {a.0.c: 1}}", "a.0.c");
            }
            stays("{a: " + value + "}", "{$unset: {a.b: 1, a.0: 1, a.c.d: 1}}");
            stays("{a: " + value + "}", "{$pull: {a.b: 1, a.0: 1, a.c.d: 1}}");
        }
    }

    /** "a number becomes the sum, of 32 bits if both are and it is one of these, else of 64 bits; fault 8 .." */
    private static void sums() {
        long[] numbers = {0, 1, -1, 2147483646, 2147483647, -2147483647, -2147483648, 2147483648L, -2147483649L,
            4294967296L, Long.MAX_VALUE, Long.MIN_VALUE, Long.MAX_VALUE - 1, Long.MIN_VALUE + 1, Long.MAX_VALUE - 2147483647,
            Long.MIN_VALUE + 2147483648L};
        for (long one : numbers) {
            for (long other : numbers) {
                for (int kinds = 0; kinds < 4; kinds++) {
                    boolean oneIsSmall = kinds % 2 == 1;
                    boolean otherIsSmall = kinds / 2 == 1;
                    if (oneIsSmall && one != (int) one || otherIsSmall && other != (int) other) {
                        continue;
                    }
                    String document = "{a: " + one + (oneIsSmall ? "" : "L") + "}";
                    String change = "{$inc: {a: " + other + (otherIsSmall ? "" : "L") + "}}";
                    java.math.BigInteger sum = java.math.BigInteger.valueOf(one).add(java.math.BigInteger.valueOf(other));
                    if (sum.bitLength() > 63) {
                        fault(28, document, change, "a");
                    } else {
                        boolean small = oneIsSmall && otherIsSmall && sum.bitLength() <= 31;
                        becomes(document, change, "{a: " + sum + (small ? "" : "L") + "}");
                    }
                }
            }
        }
        // several changes of one document: each path takes its own number
        becomes("{a: 2147483647, b: 9223372036854775806L, c: 0}", "{$inc: {a: 1, b: 1, c: -2147483648}}",
            "{a: 2147483648L, b: 9223372036854775807L, c: -2147483648}");
        fault(28, "{a: 1, b: 9223372036854775807L}", "{$inc: {a: 1, b: 1}}", "b");
    }

    /** "fault 4 an argument of $inc that is no number"; "FAULT 7: $inc at what is no number, $push, $addToSet at what is no row" */
    private static void kinds() {
        for (String value : new String[] {"'1'", "null", "true", "{}", "[]", "[1]", "{a: 1}"}) {
            fault(24, "{}", "{$inc: {a: " + value + "}}", "a");
            fault(27, "{a: " + value + "}", "{$inc: {b: 1, a: 1}}", "a");
            fault(27, "{r: [" + value + "]}", "{$inc: {r.0: 1}}", "r.0");
        }
        for (String value : new String[] {"'1'", "null", "true", "{}", "1", "1L", "{'0': 1}"}) {
            for (String operator : new String[] {"$push", "$addToSet", "$pull"}) {
                fault(27, "{a: " + value + "}", "{" + operator + ": {a: 1}}", "a");
                fault(27, "{r: [" + value + "]}", "{" + operator + ": {r.0: 1}}", "r.0");
            }
        }
        // $pull at what is missing is nothing
        stays("{}", "{$pull: {a: 1, b.c: 1}}");
    }

    /** "$addToSet: .. if the row has an item that is SAME as the argument nothing is done"; "$pull: .. all items that are SAME" */
    private static void sameItems() {
        stays("{a: [2147483647]}", "{$addToSet: {a: 2147483647L}}");
        becomes("{a: [-1]}", "{$addToSet: {a: 4294967295L}}", "{a: [-1, 4294967295L]}");
        stays("{a: [0, {b: [1L, null]}]}", "{$addToSet: {a: {b: [1, null]}}}");
        becomes("{a: [[1]]}", "{$addToSet: {a: 1}}", "{a: [[1], 1]}");
        becomes("{a: []}", "{$addToSet: {a: []}}", "{a: [[]]}");
        stays("{a: [[]]}", "{$addToSet: {a: []}}");
        becomes("{a: [1, 1]}", "{$push: {a: 1}}", "{a: [1, 1, 1]}");
        becomes("{a: [1, 1L, 1]}", "{$pull: {a: 1L}}", "{a: []}");
        becomes("{a: [null, 0, null]}", "{$pull: {a: null}}", "{a: [0]}");
        stays("{a: []}", "{$pull: {a: 1}}");
        stays("{a: [[1], 2]}", "{$pull: {a: 1}}");
        becomes("{a: [[1], 2, [1L]]}", "{$pull: {a: [1]}}", "{a: [2]}");
        // the others move up, from names of two and three digits to shorter ones
        for (int n : new int[] {1, 2, 9, 10, 11, 12, 99, 100, 101, 102}) {
            StringBuilder from = new StringBuilder("{a: [7");
            StringBuilder due = new StringBuilder("{a: [");
            for (int i = 0; i < n; i++) {
                from.append(", ").append(i % 2 == 0 ? "null" : "true");
                due.append(i > 0 ? ", " : "").append(i % 2 == 0 ? "null" : "true");
            }
            becomes(from + "], z: {y: 1}}", "{$pull: {a: 7}}", due + "], z: {y: 1}}");
        }
    }

    /** "$unset: an element of a document goes; an item of a row becomes NOTHING." */
    private static void unsets() {
        for (String value : new String[] {"1", "2L", "'text'", "true", "{}", "[]", "{x: [1, 2]}"}) {
            becomes("{a: " + value + "}", "{$unset: {a: 1}}", "{}");
            becomes("{z: 1, a: " + value + ", y: 2}", "{$unset: {a: 1}}", "{z: 1, y: 2}");
            becomes("{r: [" + value + "]}", "{$unset: {r.0: 1}}", "{r: [null]}");
            becomes("{r: [0, " + value + ", 2], y: 2}", "{$unset: {r.1: 1}}", "{r: [0, null, 2], y: 2}");
            becomes("{r: [{q: " + value + "}]}", "{$unset: {r.0.q: 1}}", "{r: [{}]}");
        }
        becomes("{a: null}", "{$unset: {a: 1}}", "{}");
        stays("{r: [null]}", "{$unset: {r.0: 1}}");
    }

    private static String text(int n) {
        return "'" + "x".repeat(n) + "'";
    }

    /** A document of so many bytes, 28 of which are not the texts' letters, and the number that grows by four at a sum. */
    private static void standsWith(int bytes) {
        insert("{a: " + text(1000) + ", b: 2147483647}");
        Docs.asks(house, "{update: {}, shelf: 0, change: {$set: {c: " + text(bytes - 28 - 1000) + "}}}",
            "{many: 1, changed: 1}");
        Docs.due("bytes", house.state(2), bytes);
    }

    private static void change(String change, int bytes) {
        String request = "{update: {}, shelf: 0, change: " + change + "}";
        if (bytes > 2000) {
            int before = house.state(2);
            Docs.faultAt(house, request, 29, "change");
            Docs.due("bytes", house.state(2), before);
        } else {
            Docs.asks(house, request, "{many: 1, changed: 1}");
            Docs.due("bytes", house.state(2), bytes);
        }
    }

    /** "FAULT 9 when the document would have more than 2,000 bytes"; "When all paths are done" */
    private static void tooManyBytes() {
        for (int more = 0; more < 3; more++) {
            standsWith(1996 + more);
            change("{$inc: {b: 1}}", 2000 + more);
            standsWith(1996 + more);
            change("{$set: {d: true}}", 2000 + more);
            standsWith(1996 + more);
            change("{$set: {q: 1, b: true}}", 2000 + more);
            standsWith(1987 + more);
            change("{$push: {r: true}}", 1987 + more + 12);
            standsWith(1987 + more);
            change("{$set: {r.s: null}}", 1987 + more + 11);
        }
        // at 2,000 bytes what is no longer than what was there
        standsWith(2000);
        change("{$set: {b: 7}}", 2000);
        change("{$set: {b: 8L}, $unset: {z: 1}}", 2004);
        change("{$set: {a: " + text(1001) + "}}", 2001);
        change("{$set: {a: " + text(1001) + ", b: 'yz'}}", 2002);
        // it may have more while the paths are done
        change("{$set: {d: " + text(900) + "}, $unset: {c: 1}}", 2000 - (8 + 972) + 908);
        change("{$push: {e: " + text(900) + "}, $unset: {a: 1, d: 1}}", 2000 - 980 + 908 - 1008 - 908 + 8 + 908);
        // another fault on the way is ahead of it
        standsWith(2000);
        Docs.faultAt(house, "{update: {}, shelf: 0, change: {$set: {z: 1}, $push: {b: 1}}}", 27, "b");
        Docs.faultAt(house, "{update: {}, shelf: 0, change: {$set: {z: 1}, $inc: {b: 9223372036854775807L}}}", 28, "b");
        Docs.faultAt(house, "{update: {}, shelf: 0, change: {$set: {z: 1, b.c: 1}}}", 26, "b.c");
    }

    private static String nested(int deep, boolean rows) {
        String value = rows ? "[]" : "{}";
        for (int i = 1; i < deep; i++) {
            value = rows ? "[" + value + "]" : "{a: " + value + "}";
        }
        return value;
    }

    /** "or would be more than 16 deep" */
    private static void tooDeep() {
        String path = "a.a.a.a.a.a.a.a";
        for (int kind = 0; kind < 2; kind++) {
            boolean rows = kind == 1;
            // the value at the eighth step is 9 deep
            String eight = nested(8, rows);
            String nine = nested(9, rows);
            String due = nested(9, false).replace("{}", "V");
            becomes("{}", "{$set: {" + path + ": " + eight + "}}", due.replace("V", eight));
            fault(29, "{}", "{$set: {" + path + ": " + nine + "}}", "change");
            becomes("{}", "{$push: {" + path + ": " + nested(7, rows) + "}}", due.replace("V", "[" + nested(7, rows) + "]"));
            fault(29, "{}", "{$push: {" + path + ": " + eight + "}}", "change");
            becomes("{}", "{$addToSet: {" + path + ": " + nested(7, rows) + "}}", due.replace("V", "[" + nested(7, rows) + "]"));
            fault(29, "{}", "{$addToSet: {" + path + ": " + eight + "}}", "change");
            // 14 deep by a request, 16 by a change: in an answer it is 19 deep
            insert("{b: 1, a: " + nested(13, rows) + "}");
            Docs.asks(house, "{update: {}, shelf: 0, change: {$set: {c: {c: {c: " + nested(10, rows) + "}}}}}",
                "{many: 1, changed: 1}");
            Docs.asks(house, "{update: {}, shelf: 0, change: {$set: {x.x.x: {x: " + nested(12, rows) + "}}}}",
                "{many: 1, changed: 1}");
            String stands = "{b: 1, a: " + nested(13, rows) + ", c: {c: {c: " + nested(10, rows) + "}}, x: {x: {x: {x: "
                + nested(12, rows) + "}}}}";
            Docs.stand(house, 0, stands);
            Docs.asks(house, "{find: {}, shelf: 0}", "{many: 1, found: [{number: 1, is: " + stands + "}]}");
            Docs.faultAt(house, "{update: {}, shelf: 0, change: {$set: {y.x.x.x: {x: " + nested(12, rows) + "}}}}", 29,
                "change");
            Docs.stand(house, 0, stands);
        }
    }

    public static void main(String[] args) {
        operators();
        pathsThatClash();
        whatIsMade();
        rows();
        stepsThatStandNowhere();
        sums();
        kinds();
        sameItems();
        unsets();
        tooManyBytes();
        tooDeep();
        Docs.end();
    }
}
