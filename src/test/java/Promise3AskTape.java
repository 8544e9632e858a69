/** Promise 3: ask takes the first bytes of the tape as a request, and empties it. */
public final class Promise3AskTape {
    public static void main(String[] args) {
        DocumentHouse house = new DocumentHouse();
        Docs.due("ask(1) of an empty tape", house.ask(1), -1);
        Docs.due("ask(-1)", house.ask(-1), -1);
        Docs.due("ask of the least", house.ask(Integer.MIN_VALUE), -1);
        Docs.due("ask of the greatest", house.ask(Integer.MAX_VALUE), -1);
        Docs.due("state(6)", house.state(6), 0);
        Docs.due("ask(0)", house.ask(0), 27);
        Docs.due("the answer", Docs.text(Docs.answer(house)), "{fault: 1, place: 0}");

        byte[] insert = Docs.bytes("{insert: {a: 1}, shelf: 0}");
        int tape = Docs.feed(house, insert);
        Docs.due("ask(tape + 1)", house.ask(tape + 1), -1);
        Docs.due("ask(-1)", house.ask(-1), -1);
        Docs.due("state(7)", house.state(7), tape);
        Docs.due("state(6)", house.state(6), 27);
        Docs.due("state(0)", house.state(0), 0);
        Docs.due("ask(" + insert.length + ")", house.ask(insert.length), 17);
        Docs.due("state(7)", house.state(7), 0);
        Docs.due("ask again", house.ask(insert.length), -1);
        Docs.due("state(0)", house.state(0), 1);

        // bytes behind the request go with it; one byte fewer or more is another request
        Docs.feed(house, insert);
        Docs.due("one byte fewer", house.ask(insert.length - 1), 27);
        Docs.due("the answer", Docs.text(Docs.answer(house)), "{fault: 1, place: 0}");
        Docs.due("state(7)", house.state(7), 0);
        Docs.feed(house, insert);
        Docs.due("one byte more", house.ask(insert.length + 1), 27);
        Docs.due("the answer", Docs.text(Docs.answer(house)), "{fault: 2, place: 0}");
        Docs.due("state(0)", house.state(0), 1);
        // a request is fed in several turns
        byte[] find = Docs.bytes("{find: {a: 1, b: null, c: {$ne: 7}}, shelf: 0}");
        Docs.asks(house, "{find: {a: 1, b: null, c: {$ne: 7}}, shelf: 0}",
            "{many: 1, found: [{number: 1, is: {a: 1}}]}");
        Docs.due("more than two feeds", find.length > 40, true);
        Docs.end();
    }
}
