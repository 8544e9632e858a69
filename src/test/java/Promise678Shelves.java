/** Promises 6 to 8: number, size and byteAt tell the documents of the shelves. */
public final class Promise678Shelves {
    private static void stands(DocumentHouse house, int shelf, int k, int number, String document) {
        byte[] due = Docs.bytes(document);
        String what = "document " + k + " of shelf " + shelf;
        Docs.due("NUMBER of " + what, house.number(shelf, k), number);
        Docs.due("size of " + what, house.size(shelf, k), due.length);
        for (int i = 0; i < due.length; i++) {
            Docs.due("byte " + i + " of " + what, house.byteAt(shelf, k, i), due[i] & 255);
        }
        for (int i : new int[] {-1, due.length, 2000, Integer.MIN_VALUE, Integer.MAX_VALUE}) {
            Docs.due("byte " + i + " of " + what, house.byteAt(shelf, k, i), -1);
        }
    }

    private static void isNone(DocumentHouse house, int shelf, int k) {
        String what = "document " + k + " of shelf " + shelf;
        Docs.due("NUMBER of " + what, house.number(shelf, k), 0);
        Docs.due("size of " + what, house.size(shelf, k), -1);
        Docs.due("byte 0 of " + what, house.byteAt(shelf, k, 0), -1);
    }

    public static void main(String[] args) {
        DocumentHouse house = new DocumentHouse();
        isNone(house, 0, 0);
        isNone(house, 1, 0);
        Docs.asks(house, "{insert: {a: -1, b: 'é'}, shelf: 0}", "{number: 1}");
        Docs.asks(house, "{insert: {}, shelf: 0}", "{number: 2}");
        Docs.asks(house, "{insert: {c: [1, [2L, true]]}, shelf: 0}", "{number: 3}");
        Docs.asks(house, "{insert: {z: null}, shelf: 1L}", "{number: 1}");
        stands(house, 0, 0, 1, "{a: -1, b: 'é'}");
        stands(house, 0, 1, 2, "{}");
        stands(house, 0, 2, 3, "{c: [1, [2L, true]]}");
        stands(house, 1, 0, 1, "{z: null}");
        isNone(house, 0, 3);
        isNone(house, 1, 1);
        for (int x : new int[] {-1, 2, 200, Integer.MIN_VALUE, Integer.MAX_VALUE}) {
            isNone(house, x, 0);
            isNone(house, 0, x == 2 ? 3 : x);
        }
        // a NUMBER is never given twice, and documents behind one that goes move up
        Docs.asks(house, "{delete: {a: -1}, shelf: 0}", "{many: 1}");
        stands(house, 0, 0, 2, "{}");
        stands(house, 0, 1, 3, "{c: [1, [2L, true]]}");
        isNone(house, 0, 2);
        Docs.asks(house, "{delete: {c: {$exists: true}}, shelf: 0}", "{many: 1}");
        Docs.asks(house, "{insert: {d: 1}, shelf: 0}", "{number: 4}");
        stands(house, 0, 1, 4, "{d: 1}");
        // a change of a document changes its bytes where it stands, and those of no other
        Docs.asks(house, "{update: {d: null}, shelf: 0, change: {$set: {d: {e: []}}}}", "{many: 1, changed: 1}");
        stands(house, 0, 0, 2, "{d: {e: []}}");
        stands(house, 0, 1, 4, "{d: 1}");
        stands(house, 1, 0, 1, "{z: null}");
        Docs.asks(house, "{delete: {}, shelf: 0}", "{many: 2}");
        isNone(house, 0, 0);
        stands(house, 1, 0, 1, "{z: null}");
        Docs.end();
    }
}
