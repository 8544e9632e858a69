/** Promise 5: state counts documents, bytes and indexes of the shelves, and bytes of the answer and the tape. */
public final class Promise5State {
    private static void states(DocumentHouse house, int... due) {
        for (int what = 0; what < due.length; what++) {
            Docs.due("state(" + what + ")", house.state(what), due[what]);
        }
    }

    public static void main(String[] args) {
        DocumentHouse house = new DocumentHouse();
        states(house, 0, 0, 0, 0, 0, 0, 0, 0);
        for (int what : new int[] {-1, 8, 9, Integer.MIN_VALUE, Integer.MAX_VALUE}) {
            Docs.due("state(" + what + ")", house.state(what), -1);
        }
        Docs.asks(house, "{insert: {}, shelf: 0}", "{number: 1}");
        states(house, 1, 0, 5, 0, 0, 0, 17, 0);
        Docs.asks(house, "{insert: {a: 1}, shelf: 1}", "{number: 1}");
        Docs.asks(house, "{insert: {a: 2L}, shelf: 1}", "{number: 2}");
        states(house, 1, 2, 5, 12 + 16, 0, 0, 17, 0);
        Docs.asks(house, "{index: ['a'], shelf: 1, down: [false]}", "{index: 0}");
        Docs.asks(house, "{index: ['a', 'b'], shelf: 1, down: [true, true]}", "{index: 1}");
        Docs.asks(house, "{index: ['c'], shelf: 0, down: [true]}", "{index: 0}");
        states(house, 1, 2, 5, 28, 1, 2, 16, 0);
        Docs.asks(house, "{drop: 0, shelf: 1}", "{dropped: true}");
        states(house, 1, 2, 5, 28, 1, 1, 15, 0);
        Docs.asks(house, "{update: {a: 2}, shelf: 1, change: {$set: {b: 'xyz'}}}", "{many: 1, changed: 1}");
        states(house, 1, 2, 5, 28 + 11, 1, 1, 28, 0);
        Docs.asks(house, "{delete: {a: 1}, shelf: 1}", "{many: 1}");
        states(house, 1, 1, 5, 27, 1, 1, 15, 0);
        house.feed(0, 0, 0, 0, 0);
        house.feed(0, 0, 0, 0, 0);
        states(house, 1, 1, 5, 27, 1, 1, 15, 40);
        Docs.due("ask(0)", house.ask(0), 27);
        states(house, 1, 1, 5, 27, 1, 1, 27, 0);
        Docs.end();
    }
}
