/** Promise 1: a new object has shelves without documents and indexes, nothing on the tape, no answer. */
public final class Promise1NewObject {
    public static void main(String[] args) {
        DocumentHouse house = new DocumentHouse();
        for (int what = 0; what < 8; what++) {
            Docs.due("state(" + what + ")", house.state(what), 0);
        }
        Docs.due("answer(0)", house.answer(0), -1);
        for (int shelf = 0; shelf < 2; shelf++) {
            Docs.due("number", house.number(shelf, 0), 0);
            Docs.due("size", house.size(shelf, 0), -1);
            Docs.due("byteAt", house.byteAt(shelf, 0, 0), -1);
        }
        Docs.due("ask(1)", house.ask(1), -1);
        Docs.due("state(6)", house.state(6), 0);
        Docs.asks(house, "{drop: 0, shelf: 0}", "{fault: 41, place: -1}");
        Docs.asks(house, "{count: {}, shelf: 1}", "{many: 0}");
        Docs.asks(house, "{insert: {}, shelf: 1}", "{number: 1}");
        DocumentHouse other = new DocumentHouse();
        Docs.due("another object's state(1)", other.state(1), 0);
        Docs.end();
    }
}
