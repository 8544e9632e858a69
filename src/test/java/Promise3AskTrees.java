import java.util.ArrayList;
import java.util.List;

/** Promise 3, Part VI: the tree of an index, as shape tells it. */
public final class Promise3AskTrees {
    private static DocumentHouse house;
    private static int numbers;

    private static void stand(boolean down) {
        house = new DocumentHouse();
        numbers = 0;
        Docs.asks(house, "{index: ['a'], shelf: 0, down: [" + down + "]}", "{index: 0}");
    }

    private static void insert(int... keys) {
        for (int key : keys) {
            numbers++;
            Docs.asks(house, "{insert: {a: " + key + "}, shelf: 0}", "{number: " + numbers + "}");
        }
    }

    private static void delete(int... keys) {
        for (int key : keys) {
            Docs.asks(house, "{delete: {a: " + key + "}, shelf: 0}", "{many: 1}");
        }
    }

    private static void shape(int entries, int levels, int leaves, int nodes) {
        Docs.asks(house, "{shape: 0, shelf: 0}", "{entries: " + entries + ", levels: " + levels + ", leaves: " + leaves
            + ", nodes: " + nodes + ", first: false, second: false}");
    }

    /** Entries that come each behind all others leave a node of four at each split, ahead of them one of five. */
    private static void grows(boolean down, boolean ascending) {
        stand(down);
        boolean behind = down != ascending;
        for (int n = 1; n <= 170; n++) {
            insert(ascending ? n : 1000 - n);
            List<Integer> widths = new ArrayList<>();
            int width = n;
            do {
                width = width <= 8 ? 1 : behind ? 1 + (width - 5) / 4 : 2 + (width - 9) / 5;
                widths.add(width);
            } while (width > 1);
            int nodes = widths.stream().mapToInt(x -> x).sum();
            shape(n, widths.size(), widths.get(0), nodes);
        }
        Docs.asks(house, "{delete: {}, shelf: 0}", "{many: 170}");
        shape(0, 1, 1, 1);
    }

    private static void lessens() {
        // [1 2 3 4] [5 6 7 8 9]: joined with the one ahead
        stand(false);
        shape(0, 1, 1, 1);
        insert(1, 2, 3, 4, 5, 6, 7, 8);
        shape(8, 1, 1, 1);
        insert(9);
        shape(9, 2, 2, 3);
        delete(9);
        shape(8, 2, 2, 3);
        delete(8);
        shape(7, 1, 1, 1);
        // [1 2 3 4] [5 6 7 8 9]: the first of the one behind comes, then they are joined
        stand(false);
        insert(1, 2, 3, 4, 5, 6, 7, 8, 9);
        delete(1);
        shape(8, 2, 2, 3);
        delete(2);
        shape(7, 1, 1, 1);
        // [0 1 2 3 4] [5 6 7 8 9]: the last of the one ahead comes, and [0 1 2 3] [4 7 8 9] are joined
        stand(false);
        insert(1, 2, 3, 4, 5, 6, 7, 8, 9, 0);
        delete(5, 6);
        shape(8, 2, 2, 3);
        delete(9);
        shape(7, 1, 1, 1);
        // [1 2 3 4] [5 6 7 8] [9 10 11 12 13]: of both neighbours with no more the one ahead
        stand(false);
        insert(1, 2, 3, 4, 5, 6, 7, 8, 9, 10, 11, 12, 13);
        shape(13, 2, 3, 4);
        delete(5);
        shape(12, 2, 3, 4);
        // [1 2 3 4] [6 7 8 9] [10 11 12 13]; [6 7 8] is joined with [1 2 3 4]
        delete(9);
        shape(11, 2, 2, 3);
        // [1 2 3 4 6 7 8] [10 11 12 13]: 5 and 9 make nine of the left one, which is split
        insert(9);
        shape(12, 2, 2, 3);
        insert(5);
        shape(13, 2, 3, 4);
    }

    /** Marks tell where an entry comes, also when their own entry is gone. */
    private static void marks() {
        // [10 20 30 40] [50 60 70 80 90], mark 50; 50 goes: 45 comes to the left one
        stand(false);
        insert(10, 20, 30, 40, 50, 60, 70, 80, 90);
        delete(50);
        insert(41, 42, 43, 45);
        shape(12, 2, 2, 3);
        insert(46);
        shape(13, 2, 3, 4);
        // 51 comes to the right one: [60 70 80 90] and 51 52 53 54, the next one splits it
        stand(false);
        insert(10, 20, 30, 40, 50, 60, 70, 80, 90);
        delete(50);
        insert(51, 52, 53, 54);
        shape(12, 2, 2, 3);
        insert(55);
        shape(13, 2, 3, 4);
        // an entry that is the mark again comes to the right one, by its NUMBER too
        stand(false);
        insert(10, 20, 30, 40, 50, 60, 70, 80, 90);
        insert(50, 50, 50);
        shape(12, 2, 2, 3);
        insert(41, 42, 43, 44);
        shape(16, 2, 2, 3);
        insert(45);
        shape(17, 2, 3, 4);
        // the mark moves with an entry that a leaf gets: [20 30 40 50] [60 ..], mark 60
        stand(false);
        insert(10, 20, 30, 40, 50, 60, 70, 80, 90);
        delete(10);
        insert(51, 52, 53, 54);
        shape(12, 2, 2, 3);
        insert(55);
        shape(13, 2, 3, 4);
    }

    /** Entries of one document come by the first key, then by the second, as the index goes. */
    private static void orders() {
        for (int way = 0; way < 4; way++) {
            house = new DocumentHouse();
            String down = "[" + (way % 2 == 1) + ", " + (way >= 2) + "]";
            Docs.asks(house, "{index: ['a', 'b'], shelf: 0, down: " + down + "}", "{index: 0}");
            // 30 entries, each behind the others, whatever the order of the items is
            Docs.asks(house, "{insert: {a: [5, 1, 4, 2, 3, 1L], b: [3, 6, 1, 5, 4, 2]}, shelf: 0}", "{number: 1}");
            Docs.asks(house, "{shape: 0, shelf: 0}",
                "{entries: 30, levels: 2, leaves: 7, nodes: 8, first: true, second: true}");
            Docs.asks(house, "{delete: {}, shelf: 0}", "{many: 1}");
            Docs.asks(house, "{shape: 0, shelf: 0}",
                "{entries: 0, levels: 1, leaves: 1, nodes: 1, first: true, second: true}");
            Docs.asks(house, "{insert: {a: 7, b: 8}, shelf: 0}", "{number: 2}");
            Docs.asks(house, "{insert: {b: [8, 9]}, shelf: 0}", "{number: 3}");
            Docs.asks(house, "{insert: {}, shelf: 0}", "{number: 4}");
            Docs.asks(house, "{shape: 0, shelf: 0}",
                "{entries: 4, levels: 1, leaves: 1, nodes: 1, first: true, second: true}");
        }
    }

    /** Of entries with the SAME first key the second one tells, as the index goes there, then the NUMBER. */
    private static void seconds() {
        for (int way = 0; way < 4; way++) {
            house = new DocumentHouse();
            String down = "[" + (way % 2 == 1) + ", " + (way >= 2) + "]";
            Docs.asks(house, "{index: ['a', 'b'], shelf: 0, down: " + down + "}", "{index: 0}");
            for (int i = 1; i <= 13; i++) {
                Docs.asks(house, "{insert: {a: 1" + (i % 2 == 0 ? "L" : "") + ", b: " + i + "}, shelf: 0}",
                    "{number: " + i + "}");
            }
            // UP each comes behind the others, DOWN ahead of them
            Docs.asks(house, "{shape: 0, shelf: 0}", "{entries: 13, levels: 2, leaves: " + (way >= 2 ? 2 : 3)
                + ", nodes: " + (way >= 2 ? 3 : 4) + ", first: false, second: false}");
            Docs.asks(house, "{drop: 0, shelf: 0}", "{dropped: true}");
            Docs.asks(house, "{index: ['a'], shelf: 0, down: [" + (way >= 2) + "]}", "{index: 0}");
            shape(13, 2, 3, 4);
        }
    }

    /** An update takes out and puts in the entries of those that it changes alone. */
    private static void updates() {
        stand(false);
        for (int i = 1; i <= 13; i++) {
            numbers++;
            Docs.asks(house, "{insert: {a: " + i + ", k: 1}, shelf: 0}", "{number: " + i + "}");
        }
        shape(13, 2, 3, 4);
        // [1 2 3 4] [5 6 7 8] [9 .. 13]: none is changed, all stay
        Docs.asks(house, "{update: {}, shelf: 0, change: {$set: {k: 1}}}", "{many: 13, changed: 0}");
        shape(13, 2, 3, 4);
        // 1 to 4 are taken out, by which the first two leaves are joined, and come again: [1 .. 8] [9 .. 13]
        Docs.asks(house, "{update: {a: {$lt: 5}}, shelf: 0, change: {$set: {k: 2}}}", "{many: 4, changed: 4}");
        shape(13, 2, 2, 3);
        // entries of documents that are not changed stay where they are
        Docs.asks(house, "{update: {}, shelf: 0, change: {$unset: {z: 1}}}", "{many: 13, changed: 0}");
        shape(13, 2, 2, 3);
        Docs.asks(house, "{update: {}, shelf: 0, change: {$addToSet: {k: 1}}}",
            "{fault: 27, place: " + Docs.placeOf(Docs.bytes(
            "{update: {}, shelf: 0, change: {$addToSet: {k: 1}}}"), "k", 1) + "}");
        shape(13, 2, 2, 3);
        Docs.asks(house, "{update: {}, shelf: 0, change: {$set: {k: 2}}}", "{many: 13, changed: 9}");
        shape(13, 2, 3, 4);
        // all are taken out ahead of the first that comes: one leaf, then as at first
        Docs.asks(house, "{update: {}, shelf: 0, change: {$set: {k: 3}}}", "{many: 13, changed: 13}");
        shape(13, 2, 3, 4);
        Docs.asks(house, "{update: {}, shelf: 0, change: {$inc: {a: 100}}}", "{many: 13, changed: 13}");
        shape(13, 2, 3, 4);
        // an index that comes later is made by the documents in the order of their NUMBERS
        Docs.asks(house, "{index: ['a'], shelf: 0, down: [true]}", "{index: 1}");
        Docs.asks(house, "{shape: 1, shelf: 0}",
            "{entries: 13, levels: 2, leaves: 2, nodes: 3, first: false, second: false}");
    }

    public static void main(String[] args) {
        grows(false, true);
        grows(true, false);
        grows(false, false);
        grows(true, true);
        lessens();
        marks();
        orders();
        seconds();
        updates();
        Docs.end();
    }
}
