/** Promise 2: feed puts twenty bytes behind those on the tape, the highest of each number first. */
public final class Promise2Feed {
    public static void main(String[] args) {
        DocumentHouse house = new DocumentHouse();
        Docs.due("the first feed", house.feed(0, 0, 0, 0, 0), 20);
        Docs.due("state(7)", house.state(7), 20);
        Docs.due("state(6)", house.state(6), 0);
        for (int i = 2; i <= 100; i++) {
            Docs.due("feed " + i, house.feed(-1, 1 << 31, Integer.MAX_VALUE, i, -i), 20 * i);
        }
        Docs.due("feed over 2,000 bytes", house.feed(1, 2, 3, 4, 5), -1);
        Docs.due("state(7) after it", house.state(7), 2000);
        Docs.due("ask(2000)", house.ask(2000), 27);
        Docs.due("state(7) after ask", house.state(7), 0);
        Docs.due("the next feed", house.feed(0, 0, 0, 0, 0), 20);
        Docs.due("ask(0)", house.ask(0), 27);

        // {count: {}, shelf: 1} has 4 + 12 + 11 + 1 = 28 bytes, each at its own place in the words
        Docs.due("feed", house.feed(0x1c000000, 0x03636f75, 0x6e740005, 0x00000000, 0x10736865), 20);
        Docs.due("feed", house.feed(0x6c660001, 0x00000000, 0x77777777, 0x77777777, 0x77777777), 40);
        Docs.due("ask(28)", house.ask(28), 15);
        Docs.due("the answer", Docs.text(Docs.answer(house)), "{many: 0}");

        // a full tape of 2,000 bytes that is one request
        StringBuilder text = new StringBuilder();
        int rest = 2000 - Docs.bytes("{insert: {a: ''}, shelf: 0}").length;
        for (int i = 0; i < rest; i++) {
            text.append((char) ('a' + i % 26));
        }
        byte[] request = Docs.bytes("{insert: {a: '" + text + "'}, shelf: 0}");
        Docs.due("bytes of the request", request.length, 2000);
        Docs.due("feeding it", Docs.feed(house, request), 2000);
        // a feed for which there is no room leaves the tape as it is
        for (int i = 0; i < 3; i++) {
            Docs.due("feed over 2,000 bytes", house.feed(-1, 0, 7, Integer.MIN_VALUE, Integer.MAX_VALUE), -1);
            Docs.due("state(7)", house.state(7), 2000);
        }
        Docs.due("asking it", house.ask(2000), 17);
        Docs.due("its size", house.size(0, 0), 2000 - 24);
        for (int i = 0; i < rest; i++) {
            Docs.due("byte " + i, house.byteAt(0, 0, 11 + i), 'a' + i % 26);
        }
        Docs.end();
    }
}
