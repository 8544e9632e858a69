/** Promise 4: answer tells the bytes of the latest answer, without sign. */
public final class Promise4Answer {
    public static void main(String[] args) {
        DocumentHouse house = new DocumentHouse();
        Docs.due("answer(0) ahead of any", house.answer(0), -1);
        house.ask(0);
        int[] due = {27, 0, 0, 0, 16, 'f', 'a', 'u', 'l', 't', 0, 1, 0, 0, 0,
            16, 'p', 'l', 'a', 'c', 'e', 0, 0, 0, 0, 0, 0};
        for (int i = 0; i < due.length; i++) {
            Docs.due("answer(" + i + ")", house.answer(i), due[i]);
        }
        Docs.due("answer(27)", house.answer(27), -1);
        Docs.due("answer(-1)", house.answer(-1), -1);
        Docs.due("answer of the least", house.answer(Integer.MIN_VALUE), -1);
        Docs.due("answer of the greatest", house.answer(Integer.MAX_VALUE), -1);

        // bytes above 127 have no sign; a shorter answer leaves nothing of a longer one
        Docs.asks(house, "{insert: {a: -1}, shelf: 0}", "{number: 1}");
        Docs.asks(house, "{find: {}, shelf: 0}", "{many: 1, found: [{number: 1, is: {a: -1}}]}");
        int length = house.state(6);
        int high = 0;
        for (int i = 0; i < length; i++) {
            high += house.answer(i) == 255 ? 1 : 0;
        }
        Docs.due("bytes 255", high, 4);
        Docs.asks(house, "{count: {}, shelf: 0}", "{many: 1}");
        Docs.due("state(6)", house.state(6), 15);
        Docs.due("answer(14)", house.answer(14), 0);
        Docs.due("answer(15)", house.answer(15), -1);
        // feeding, and an ask that does nothing, leave the latest answer
        house.feed(1, 2, 3, 4, 5);
        Docs.due("ask(21)", house.ask(21), -1);
        Docs.due("answer(0)", house.answer(0), 15);
        // a place may be -1, which is four bytes 255
        house.ask(0);
        Docs.asks(house, "{drop: 0, shelf: 0}", "{fault: 41, place: -1}");
        for (int i = 22; i < 26; i++) {
            Docs.due("answer(" + i + ")", house.answer(i), 255);
        }
        Docs.end();
    }
}
