/** Promise 3, Part I: what is no document, its fault and its place. */
public final class Promise3AskBytes {
    private static DocumentHouse house = new DocumentHouse();

    private static byte[] document(Object... parts) {
        return Docs.raw(parts);
    }

    private static byte[] join(Object... parts) {
        return Docs.join(parts);
    }

    private static void fault(int fault, int place, byte[] request) {
        Docs.fault(house, request, fault, place);
    }

    /** The same as a value in a document: the place is 4 bytes, a kind, a name of one byte and a 0 further. */
    private static void sizes() {
        fault(1, 0, join());
        fault(1, 0, join(5));
        fault(1, 0, join(5, 0, 0));
        fault(2, 0, join(0, 0, 0, 0));
        fault(2, 0, join(4, 0, 0, 0));
        fault(2, 0, join(4, 0, 0, 0, 0));
        fault(1, 0, join(5, 0, 0, 0));
        fault(9, 4, join(5, 0, 0, 0, 0));
        fault(2, 0, join(5, 0, 0, 0, 0, 0));
        fault(1, 0, join(6, 0, 0, 0, 0));
        fault(1, 0, join(5, 1, 0, 0, 0));
        fault(1, 0, join(5, 0, 0, 128, 0));
        fault(1, 0, join(255, 255, 255, 255, 0));
        fault(2, 4, join(5, 0, 0, 0, 1));
        for (int kind = 3; kind <= 4; kind++) {
            fault(1, 7, document(kind, "a", 0));
            fault(1, 7, document(kind, "a", 0, 5, 0, 0));
            fault(1, 7, document(kind, "a", 0, 5, 0, 0, 0));
            fault(2, 7, document(kind, "a", 0, 4, 0, 0, 0));
            fault(2, 7, document(kind, "a", 0, 0, 0, 0, 0, 0));
            fault(1, 7, document(kind, "a", 0, 6, 0, 0, 0, 0));
            fault(1, 7, document(kind, "a", 0, 255, 255, 255, 255, 0));
            fault(2, 11, document(kind, "a", 0, 5, 0, 0, 0, 7));
            fault(9, 4, document(kind, "a", 0, 5, 0, 0, 0, 0));
            // a SIZE that is less than what is left is right here, and what is behind are elements
            fault(9, 4, document(kind, "a", 0, 5, 0, 0, 0, 0, 10, "b", 0));
        }
    }

    private static void kinds() {
        for (int kind = 0; kind < 256; kind++) {
            boolean right = kind == 2 || kind == 3 || kind == 4 || kind == 8 || kind == 10 || kind == 16 || kind == 18;
            if (!right) {
                fault(kind == 0 ? 2 : 3, 4, document(kind, "a", 0, 0, 0, 0, 0, 0, 0, 0, 0));
            }
        }
        // the last byte is not 0
        byte[] request = document(10, "a", 0);
        request[request.length - 1] = 10;
        fault(2, 7, request);
        request[request.length - 1] = -1;
        fault(2, 7, request);
        // a 0 where another element, or the last byte, has to be
        fault(2, 7, document(10, "a", 0, 0));
        fault(2, 7, document(10, "a", 0, 0, 10, "b", 0));
    }

    private static void names() {
        fault(1, 5, document(10));
        fault(1, 5, document(10, "a"));
        fault(1, 5, document(10, "abc"));
        fault(1, 8, document(10, "a", 0, 16));
        fault(9, 4, document(10, 0));
        fault(7, 8, document(10, "a", 0, 10, "a", 0));
        fault(7, 7, document(10, 0, 10, 0));
        fault(7, 11, document(10, "a", 0, 10, "b", 0, 10, "a", 0));
        fault(7, 11, document(10, "a", 0, 10, "b", 0, 10, "b", 0));
        fault(7, 16, document(10, "a", 0, 3, "b", 0, document(), 10, "b", 0));
        fault(9, 4, document(10, "a", 0, 10, "ab", 0, 10, 0, 10, "b", 0));
        fault(9, 4, document(3, "a", 0, document(10, "a", 0)));
        // a row's names
        fault(7, 12, document(4, "a", 0, document(10, "1", 0)));
        fault(7, 12, document(4, "a", 0, document(10, 0)));
        fault(7, 12, document(4, "a", 0, document(10, "00", 0)));
        fault(7, 12, document(4, "a", 0, document(10, "a", 0)));
        fault(7, 15, document(4, "a", 0, document(10, "0", 0, 10, "0", 0)));
        fault(7, 15, document(4, "a", 0, document(10, "0", 0, 10, "2", 0)));
        fault(7, 15, document(4, "a", 0, document(10, "0", 0, 10, "01", 0)));
        fault(9, 4, document(4, "a", 0, document(10, "0", 0, 10, "1", 0)));
        byte[] items = join();
        for (int i = 0; i < 120; i++) {
            items = join(items, 10, Integer.toString(i), 0);
        }
        fault(9, 4, document(4, "a", 0, document(items)));
        fault(7, 12 + items.length, document(4, "a", 0, document(items, 10, "12", 0)));
        fault(7, 12 + items.length, document(4, "a", 0, document(items, 10, "121", 0)));
        fault(7, 12 + items.length, document(4, "a", 0, document(items, 10, "020", 0)));
    }

    private static void values() {
        fault(1, 7, document(16, "a", 0));
        fault(1, 7, document(16, "a", 0, 1, 2, 3));
        fault(9, 4, document(16, "a", 0, 1, 2, 3, 4));
        fault(1, 7, document(18, "a", 0, 1, 2, 3, 4, 5, 6, 7));
        fault(9, 4, document(18, "a", 0, 1, 2, 3, 4, 5, 6, 7, 8));
        fault(1, 7, document(8, "a", 0));
        fault(9, 4, document(8, "a", 0, 0));
        fault(9, 4, document(8, "a", 0, 1));
        fault(5, 7, document(8, "a", 0, 2));
        fault(5, 7, document(8, "a", 0, 255));
        fault(1, 7, document(2, "a", 0));
        fault(1, 7, document(2, "a", 0, 1, 0, 0));
        fault(6, 7, document(2, "a", 0, 0, 0, 0, 0));
        fault(6, 7, document(2, "a", 0, 0, 0, 0, 0, 0));
        fault(1, 7, document(2, "a", 0, 1, 0, 0, 0));
        fault(1, 7, document(2, "a", 0, 2, 0, 0, 0, 0));
        fault(1, 7, document(2, "a", 0, 0, 0, 0, 128, 0));
        fault(1, 7, document(2, "a", 0, 255, 255, 255, 255, 0));
        fault(6, 11, document(2, "a", 0, 1, 0, 0, 0, 1));
        fault(6, 13, document(2, "a", 0, 3, 0, 0, 0, "xyz"));
        fault(9, 4, document(2, "a", 0, 1, 0, 0, 0, 0));
        fault(9, 4, document(2, "a", 0, 4, 0, 0, 0, 0, 0, 0, 0));
        // the last byte of a text is named ahead of its characters
        fault(6, 12, document(2, "a", 0, 2, 0, 0, 0, 128, 7));
        fault(4, 11, document(2, "a", 0, 2, 0, 0, 0, 128, 0));
    }

    /** Bytes of which the first character that is no right UTF-8 begins there, -1: all are right. */
    private static void characters(int wrong, Object... bytes) {
        byte[] text = join(bytes);
        byte[] request = document(2, "a", 0, text.length + 1, 0, 0, 0, text, 0);
        fault(wrong < 0 ? 9 : 4, wrong < 0 ? 4 : 11 + wrong, request);
        fault(wrong < 0 ? 9 : 4, wrong < 0 ? 4 : 5 + wrong, document(10, text, 0));
    }

    private static void characters() {
        characters(-1, "az", 127, 1);
        characters(-1, 0xc2, 0x80, 0xdf, 0xbf);
        characters(-1, 0xe0, 0xa0, 0x80, 0xed, 0x9f, 0xbf, 0xee, 0x80, 0x80, 0xef, 0xbf, 0xbf);
        characters(-1, 0xf0, 0x90, 0x80, 0x80, 0xf4, 0x8f, 0xbf, 0xbf);
        characters(0, 0x80);
        characters(2, "ab", 0xbf, "c");
        characters(1, "a", 0xc0, 0x80);
        characters(1, "a", 0xc1, 0xbf);
        characters(0, 0xc3);
        characters(0, 0xc3, "a");
        characters(0, 0xc3, 0xc3, 0xa9);
        characters(2, 0xc3, 0xa9, 0xa9);
        characters(0, 0xe0, 0x9f, 0xbf);
        characters(0, 0xe2, 0x82);
        characters(0, 0xe2, 0x82, "a");
        characters(0, 0xe2, "a", 0x82);
        characters(0, 0xed, 0xa0, 0x80);
        characters(0, 0xed, 0xbf, 0xbf);
        characters(3, 0xe2, 0x82, 0xac, 0xe2);
        characters(0, 0xf0, 0x8f, 0xbf, 0xbf);
        characters(0, 0xf0, 0x9f, 0x98);
        characters(0, 0xf0, 0x9f, 0x98, "a");
        characters(0, 0xf4, 0x90, 0x80, 0x80);
        characters(0, 0xf5, 0x80, 0x80, 0x80);
        characters(0, 0xff);
        characters(0, 0xfe, 0x80);
        // a 0 stands in a text, not in a name; a character does not go over the end of its text
        byte[] text = join(2, "a", 0, 4, 0, 0, 0, "x", 0, "y", 0);
        fault(9, 4, document(text));
        fault(4, 11, document(2, "a", 0, 2, 0, 0, 0, 0xc3, 0, 10, 0xa9, 0));
        // a bad character of a name is named ahead of its standing there twice
        fault(4, 10, document(10, 0, 10, "a", 0, 10, 0xff, 0));
        fault(4, 12, document(4, "a", 0, document(10, 0xff, 0)));
    }

    private static byte[] nested(int deep, int kind) {
        byte[] inside = document();
        for (int i = 1; i < deep; i++) {
            inside = document(i == deep - 1 ? 3 : kind, i == deep - 1 ? "insert" : "0", 0, inside,
                i == deep - 1 ? join(16, "shelf", 0, 0, 0, 0, 0) : join());
        }
        return inside;
    }

    private static void depth() {
        Docs.due("15 deep", Docs.askBytes(house, nested(15, 3)), "{number: 1}");
        Docs.due("16 deep", Docs.askBytes(house, nested(16, 3)), "{number: 2}");
        Docs.due("16 deep of rows", Docs.askBytes(house, nested(16, 4)), "{number: 3}");
        // the SIZE of the 17th: behind 4 bytes, the head of 8, and 15 times 4 bytes and a head of 3
        fault(8, 4 + 8 + 15 * 7, nested(17, 3));
        fault(8, 4 + 8 + 15 * 7, nested(17, 4));
        fault(8, 4 + 8 + 15 * 7, nested(20, 4));
        // of one thing the first fault: its SIZE ahead of its depth
        byte[] request = nested(17, 3);
        request[4 + 8 + 15 * 7] = 4;
        fault(2, 4 + 8 + 15 * 7, request);
        request[4 + 8 + 15 * 7] = 7;
        fault(1, 4 + 8 + 15 * 7, request);
    }

    private static void order() {
        // the first thing that is not so, thing by thing
        fault(5, 7, document(8, "a", 0, 2, 3, "b", 0, 4, 0, 0, 0));
        fault(1, 11, document(8, "a", 0, 1, 3, "b", 0, 9, 0, 0, 0));
        fault(3, 11, document(3, "a", 0, 6, 0, 0, 0, 99, 0));
        fault(2, 7, document(3, "a", 0, 3, 0, 0, 0, 99, 0));
        // what is right as a document is looked at as a request only then
        fault(9, 4, document(10, "a", 0));
        fault(5, 17, document(16, "wrong", 0, 1, 0, 0, 0, 8, 0, 2));
    }

    public static void main(String[] args) {
        sizes();
        kinds();
        names();
        values();
        house = new DocumentHouse();
        characters();
        depth();
        order();
        Docs.due("documents", house.state(0), 3);
        Docs.end();
    }
}
