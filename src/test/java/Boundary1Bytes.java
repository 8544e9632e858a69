import java.nio.charset.StandardCharsets;
import java.util.Arrays;
import java.util.Set;

/** Promise 3, Part I, sentence by sentence: the last that is right of each boundary, and the first that is not. */
public final class Boundary1Bytes {
    private static final int[] CONTAINERS = {3, 4};
    private static DocumentHouse house = new DocumentHouse();
    private static int asked;

    /** The fault and place of a request; 9 at 4 when it is a document, since {a: ..} is no request. */
    private static void fault(int fault, int place, byte[] request) {
        // an object is used for 512 calls at most, answers read byte by byte among them
        if (++asked % 10 == 0) {
            house = new DocumentHouse();
        }
        Docs.fault(house, request, fault, place);
    }

    private static void right(byte[] request) {
        fault(9, 4, request);
    }

    private static byte[] raw(Object... parts) {
        return Docs.raw(parts);
    }

    /** "1 fewer than 4 bytes are left of what it stands in (ahead of that one's last byte; of all, for the document itself)" */
    private static void fewerThanFourBytesAreLeft() {
        for (int filling : new int[] {0, 1, 5, 255}) {
            byte[] left = new byte[0];
            for (int n = 0; n < 4; n++) {
                fault(1, 0, left);
                for (int kind : CONTAINERS) {
                    fault(1, 7, raw(kind, "a", 0, left));
                    // of what it stands in, whatever is behind that
                    fault(1, 14, raw(3, "a", 0, raw(kind, "b", 0, left), 10, "c", 0, 10, "d", 0));
                    fault(1, 14, raw(4, "a", 0, raw(kind, "0", 0, left), 10, "c", 0, 10, "d", 0));
                }
                left = Docs.join(left, filling);
            }
        }
        right(raw(3, "a", 0, 5, 0, 0, 0, 0));
    }

    /** "2 the SIZE is below 5, or less than all for the document itself; 1 it is more than is left", "SIZE .. no sign" */
    private static void sizes() {
        for (int size = 0; size < 256; size++) {
            if (size != 12) {
                fault(size < 12 ? 2 : 1, 0, Docs.join(size, 0, 0, 0, 16, "a", 0, 1, 0, 0, 0, 0));
            }
            for (int kind : CONTAINERS) {
                byte[] request = raw(kind, "a", 0, size, 0, 0, 0, 0, 10, "b", 0);
                if (size < 5) {
                    fault(2, 7, request);
                } else if (size == 5) {
                    right(request);
                } else if (size > 8) {
                    fault(1, 7, request);
                }
            }
        }
        for (int shift = 8; shift < 32; shift++) {
            int[] high = new int[4];
            high[shift / 8] = 1 << shift % 8;
            fault(1, 0, Docs.join(5, high[1], high[2], high[3], 0));
            fault(1, 7, raw(3, "a", 0, 5, high[1], high[2], high[3], 0));
            fault(1, 7, raw(3, "a", 0, 0, high[1], high[2], high[3], 0));
        }
        right(Docs.join(12, 0, 0, 0, 16, "a", 0, 1, 0, 0, 0, 0));
    }

    /** "documents and rows are at most 16 DEEP: the outermost document is 1 deep, those in it 2"; "8 it is too deep" */
    private static void deep() {
        for (int kind : CONTAINERS) {
            byte[] inside = raw();
            for (int deep = 1; deep <= 15; deep++) {
                right(raw(3, "a", 0, inside));
                inside = raw(kind, "0", 0, inside);
            }
            fault(8, 7 * 16, raw(3, "a", 0, inside));
            // the first thing that is not so: what stands ahead of it is right, what stands behind is not looked at
            fault(8, 7 * 16, raw(3, "a", 0, inside, 99));
            fault(3, 4, raw(99, "a", 0, inside));
            fault(8, 7 * 16 + 3, raw(10, "b", 0, 3, "a", 0, inside));
        }
        // several next to one another are no deeper
        byte[] wide = raw(3, "a", 0, raw(), 3, "b", 0, raw(), 4, "c", 0, raw(3, "0", 0, raw(), 3, "1", 0, raw()));
        for (int i = 0; i < 12; i++) {
            wide = raw(4, "x", 0, raw(3, "0", 0, raw()), 3, "y", 0, wide);
        }
        right(raw(3, "a", 0, wide));
        // two heads and SIZES, twelve with x and the head of y, a and b, the heads of c and of its item
        fault(8, 2 * 7 + 12 * (4 + 16 + 3) + 4 + 8 + 8 + 3 + 4 + 3, raw(3, "a", 0, raw(3, "b", 0, wide)));
    }

    /** "Where an element or the last byte has to be: 2 the last byte is not 0, or another one is 0. 3 the kind is none." */
    private static void elementsAndLastBytes() {
        Set<Integer> kinds = Set.of(2, 3, 4, 8, 10, 16, 18);
        for (int x = 0; x < 256; x++) {
            byte[] empty = Docs.join(5, 0, 0, 0, x);
            fault(x == 0 ? 9 : 2, 4, empty);
            fault(x == 0 ? 9 : 2, x == 0 ? 4 : 7, Docs.join(8, 0, 0, 0, 10, "a", 0, x));
            fault(x == 0 ? 9 : 2, x == 0 ? 4 : 11, raw(3, "a", 0, 5, 0, 0, 0, x));
            if (!kinds.contains(x)) {
                fault(x == 0 ? 2 : 3, 4, raw(x));
                fault(x == 0 ? 2 : 3, 7, raw(10, "a", 0, x));
                fault(x == 0 ? 2 : 3, 11, raw(4, "a", 0, raw(x, "0", 0)));
            } else {
                fault(1, 5, raw(x));
            }
        }
    }

    /** "1 there is no 0 behind it ahead of the last byte of its document" */
    private static void namesWithoutEnd() {
        for (Object name : new Object[] {"", "a", "abcdefgh", new byte[] {-1}, new byte[] {-61}}) {
            fault(1, 5, raw(10, name));
            fault(1, 5, raw(16, name, 16));
            fault(1, 12, raw(3, "a", 0, raw(10, name), 10, "b", 0));
            fault(1, 12, raw(4, "a", 0, raw(10, name), 10, "b", 0));
        }
        right(raw(10, 0));
        right(raw(3, "a", 0, raw(10, 0), 10, "b", 0));
    }

    /** "7 the document has that name already, or it is not the next number of a row" */
    private static void namesThatStood() {
        right(raw(10, 0, 10, "a", 0, 10, "A", 0, 10, "aa", 0, 10, "0", 0, 10, "00", 0));
        for (String name : new String[] {"", "a", "A", "aa", "0", "00"}) {
            fault(7, 24, raw(10, 0, 10, "a", 0, 10, "A", 0, 10, "aa", 0, 10, "0", 0, 10, "00", 0, 10, name, 0));
        }
        byte[] items = new byte[0];
        for (int i = 0; i <= 101; i++) {
            for (int wrong : new int[] {i - 1, i + 1, i * 10, i + 100}) {
                if (wrong != i) {
                    fault(7, 12 + items.length, raw(4, "a", 0, raw(items, 10, Integer.toString(wrong), 0)));
                }
            }
            fault(7, 12 + items.length, raw(4, "a", 0, raw(items, 10, "0" + i, 0)));
            fault(7, 12 + items.length, raw(4, "a", 0, raw(items, 10, i + "0", 0)));
            fault(7, 12 + items.length, raw(4, "a", 0, raw(items, 10, i + " ", 0)));
            fault(7, 12 + items.length, raw(4, "a", 0, raw(items, 10, "+" + i, 0)));
            items = Docs.join(items, 10, Integer.toString(i), 0);
            right(raw(4, "a", 0, raw(items)));
        }
    }

    /** "At a value: 1 fewer bytes are left, ahead of the last one, than a number or a truth has, or than 4, for a text" */
    private static void valuesWithoutEnd() {
        int[][] widths = {{16, 4}, {18, 8}, {8, 1}, {2, 4}};
        for (int[] width : widths) {
            for (int filling : new int[] {0, 1, 255}) {
                byte[] left = new byte[0];
                for (int n = 0; n < width[1]; n++) {
                    fault(1, 7, raw(width[0], "a", 0, left));
                    fault(1, 14, raw(3, "a", 0, raw(width[0], "b", 0, left), 10, "c", 0, 10, "d", 0, 10, "e", 0));
                    left = Docs.join(left, filling);
                }
                if (width[0] != 2 && width[0] != 8) {
                    right(raw(width[0], "a", 0, left));
                    fault(2, 7 + width[1], raw(width[0], "a", 0, left, 0));
                }
            }
        }
        right(raw(10, "a", 0));
        right(raw(10, "a", 0, 10, "b", 0));
    }

    /** "5 a truth that is neither 0 nor 1" */
    private static void truths() {
        for (int x = 0; x < 256; x++) {
            fault(x < 2 ? 9 : 5, x < 2 ? 4 : 7, raw(8, "a", 0, x));
        }
    }

    /** "of a text: 6 n is below 1; 1 fewer bytes are left than 4 and n; 6 the last one of the n is not 0 (at that byte)" */
    private static void texts() {
        for (int letters = 0; letters < 5; letters++) {
            String text = "abcde".substring(0, letters);
            for (int n = 0; n < 256; n++) {
                byte[] request = raw(2, "a", 0, n, 0, 0, 0, text, 0);
                if (n == 0) {
                    fault(6, 7, request);
                } else if (n > letters + 1) {
                    fault(1, 7, request);
                } else if (n < letters + 1) {
                    fault(6, 11 + n - 1, request);
                } else {
                    right(request);
                }
            }
        }
        for (int shift = 8; shift < 32; shift++) {
            int[] high = new int[4];
            high[shift / 8] = 1 << shift % 8;
            fault(1, 7, raw(2, "a", 0, 1, high[1], high[2], high[3], 0));
            fault(1, 7, raw(2, "a", 0, 0, high[1], high[2], high[3], 0));
        }
        // n - 1 bytes, any, also 0
        right(raw(2, "a", 0, 5, 0, 0, 0, 0, 0, 0, 0, 0));
        for (int x = 1; x < 128; x++) {
            right(raw(2, "a", 0, 2, 0, 0, 0, x, 0));
            fault(6, 12, raw(2, "a", 0, 2, 0, 0, 0, 0, x));
            fault(6, 12, raw(2, "a", 0, 2, 0, 0, 0, 255, x));
        }
    }

    // ---- "Names and texts are RIGHT UTF-8: the shortest form of code points 0 .. 1114111 but 55296 .. 57343" ----

    /** Whether these bytes are the shortest form of a code point: what Java writes for the point that their bits tell. */
    private static boolean isShortest(byte[] bytes) {
        int point = bytes.length == 1 ? bytes[0] & 255 : bytes[0] & 255 >> bytes.length + 1;
        for (int i = 1; i < bytes.length; i++) {
            point = point << 6 | bytes[i] & 63;
        }
        if (point > 1114111 || point >= 55296 && point <= 57343) {
            return false;
        }
        return Arrays.equals(bytes, new String(Character.toChars(point)).getBytes(StandardCharsets.UTF_8));
    }

    /** Where the first character begins that is no shortest form; -1 when there is none. */
    private static int firstWrong(byte[] bytes) {
        int at = 0;
        while (at < bytes.length) {
            int length = 1;
            while (length <= 4 && at + length <= bytes.length && !isShortest(Arrays.copyOfRange(bytes, at, at + length))) {
                length++;
            }
            if (length > 4 || at + length > bytes.length) {
                return at;
            }
            at += length;
        }
        return -1;
    }

    private static void characters(int... bytes) {
        byte[] text = new byte[bytes.length];
        for (int i = 0; i < bytes.length; i++) {
            text[i] = (byte) bytes[i];
        }
        int wrong = firstWrong(text);
        fault(wrong < 0 ? 9 : 4, wrong < 0 ? 4 : 11 + wrong, raw(2, "a", 0, text.length + 1, 0, 0, 0, text, 0));
        if (new String(text, StandardCharsets.ISO_8859_1).indexOf(0) < 0) {
            fault(wrong < 0 ? 9 : 4, wrong < 0 ? 4 : 5 + wrong, raw(10, text, 0));
        }
    }

    private static void rightCharacters() {
        for (int x = 0; x < 256; x++) {
            characters(x);
            characters('a', x);
        }
        int[] edges = {0, 'a', 0x7f, 0x80, 0x8f, 0x90, 0x9f, 0xa0, 0xbf, 0xc0, 0xc2, 0xff};
        for (int lead = 0xbf; lead < 256; lead++) {
            for (int second : edges) {
                characters(lead, second);
                for (int third : new int[] {'a', 0x7f, 0x80, 0xbf, 0xc0}) {
                    characters(lead, second, third);
                    if (lead >= 0xee) {
                        characters(lead, second, third, 0x80);
                        characters(lead, second, third, 0xc0);
                    }
                }
            }
        }
        for (int point : new int[] {0x7f, 0x80, 0x7ff, 0x800, 0xd7ff, 0xe000, 0xffff, 0x10000, 0x10ffff}) {
            byte[] right = new String(Character.toChars(point)).getBytes(StandardCharsets.UTF_8);
            right(raw(10, right, right, 0));
            right(raw(2, "a", 0, right.length + 1, 0, 0, 0, right, 0));
            // a character ends where its text or name does
            if (right.length > 1) {
                byte[] cut = Arrays.copyOf(right, right.length - 1);
                fault(4, 11 + right.length, raw(2, "a", 0, right.length + cut.length + 1, 0, 0, 0, right, cut, 0));
                fault(4, 5, raw(10, cut, 0, 10, "b", 0));
            }
        }
    }

    /** "of what is not so with one thing what is named first here, wherever its bytes are" */
    private static void whatIsNamedFirst() {
        // a name: 1 ahead of 4, 4 ahead of 7
        fault(1, 5, raw(10, 255, "abc"));
        fault(4, 9, raw(10, "a", 0, 10, "a", 255, 0));
        fault(4, 12, raw(4, "a", 0, raw(10, 255, 0)));
        fault(4, 13, raw(4, "a", 0, raw(10, "7", 255, 0)));
        // a text: 6 for n ahead of all, 1 ahead of the last byte's 6, that ahead of 4, which stands ahead of it
        fault(6, 7, raw(2, "a", 0, 0, 0, 0, 0, 255, 255));
        fault(1, 7, raw(2, "a", 0, 9, 0, 0, 0, 255, 255));
        fault(6, 13, raw(2, "a", 0, 3, 0, 0, 0, 255, 255, 7));
        // a SIZE: 1 for the bytes that are left ahead of 2, and both ahead of 8
        fault(1, 0, Docs.join(0, 0, 0));
        byte[] inside = raw(3, "z", 0, 4, 0, 0, 0);
        for (int i = 0; i < 15; i++) {
            inside = raw(3, "a", 0, inside);
        }
        fault(2, 7 * 16, inside);
        inside = raw(3, "z", 0, 0, 0, 0);
        for (int i = 0; i < 15; i++) {
            inside = raw(3, "a", 0, inside);
        }
        fault(1, 7 * 16, inside);
        // the first thing that is not so is the fault, whatever is not so behind it
        fault(7, 8, raw(10, "a", 0, 16, "a", 0, 1));
        fault(3, 7, raw(10, "a", 0, 1, 255));
        fault(4, 5, raw(8, 255, 0, 9));
    }

    public static void main(String[] args) {
        fewerThanFourBytesAreLeft();
        sizes();
        deep();
        elementsAndLastBytes();
        namesWithoutEnd();
        namesThatStood();
        valuesWithoutEnd();
        truths();
        texts();
        rightCharacters();
        whatIsNamedFirst();
        Docs.end();
    }
}
