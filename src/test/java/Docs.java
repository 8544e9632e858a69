import java.io.ByteArrayOutputStream;
import java.nio.charset.StandardCharsets;

/**
 * What the tests share: documents written as text. {a: 1, b: 2L, c: 'text', d: true, e: null, f: [1, 'x']} has a
 * number of 32 bits, one of 64 bits, a text, a truth, NOTHING and a row. A name is bare or 'quoted'.
 */
final class Docs {
    private final String source;
    private int at;
    private static int wrong = 0;

    private Docs(String notation) {
        source = notation;
    }

    // ---- from text to bytes ----

    static byte[] bytes(String notation) {
        Docs docs = new Docs(notation);
        ByteArrayOutputStream out = new ByteArrayOutputStream();
        docs.skip();
        docs.container(out, false);
        docs.skip();
        if (docs.at != notation.length()) {
            throw new IllegalArgumentException("more behind the document: " + notation.substring(docs.at));
        }
        return out.toByteArray();
    }

    private void skip() {
        while (at < source.length() && source.charAt(at) == ' ') {
            at++;
        }
    }

    private boolean takes(char c) {
        skip();
        if (at < source.length() && source.charAt(at) == c) {
            at++;
            return true;
        }
        return false;
    }

    private void container(ByteArrayOutputStream out, boolean row) {
        if (!takes(row ? '[' : '{')) {
            throw new IllegalArgumentException("at " + at + " of " + source);
        }
        ByteArrayOutputStream inside = new ByteArrayOutputStream();
        char close = row ? ']' : '}';
        int n = 0;
        while (!takes(close)) {
            if (n > 0 && !takes(',')) {
                throw new IllegalArgumentException("no comma at " + at + " of " + source);
            }
            String name = Integer.toString(n);
            if (!row) {
                name = word();
                if (!takes(':')) {
                    throw new IllegalArgumentException("no colon at " + at + " of " + source);
                }
            }
            element(inside, name);
            n++;
        }
        put4(out, inside.size() + 5);
        out.writeBytes(inside.toByteArray());
        out.write(0);
    }

    private String word() {
        skip();
        if (source.charAt(at) == '\'') {
            int end = source.indexOf('\'', at + 1);
            String word = source.substring(at + 1, end);
            at = end + 1;
            return word;
        }
        int start = at;
        while (at < source.length() && ":,{}[] ".indexOf(source.charAt(at)) < 0) {
            at++;
        }
        return source.substring(start, at);
    }

    private void element(ByteArrayOutputStream out, String name) {
        skip();
        byte[] head = name.getBytes(StandardCharsets.UTF_8);
        char c = source.charAt(at);
        if (c == '{' || c == '[') {
            head(out, c == '{' ? 3 : 4, head);
            container(out, c == '[');
        } else if (c == '\'') {
            head(out, 2, head);
            byte[] text = word().getBytes(StandardCharsets.UTF_8);
            put4(out, text.length + 1);
            out.writeBytes(text);
            out.write(0);
        } else {
            String word = word();
            if (word.equals("true") || word.equals("false")) {
                head(out, 8, head);
                out.write(word.equals("true") ? 1 : 0);
            } else if (word.equals("null")) {
                head(out, 10, head);
            } else if (word.endsWith("L")) {
                head(out, 18, head);
                long x = Long.parseLong(word.substring(0, word.length() - 1));
                put4(out, (int) x);
                put4(out, (int) (x >> 32));
            } else {
                head(out, 16, head);
                put4(out, Integer.parseInt(word));
            }
        }
    }

    private static void head(ByteArrayOutputStream out, int kind, byte[] name) {
        out.write(kind);
        out.writeBytes(name);
        out.write(0);
    }

    private static void put4(ByteArrayOutputStream out, int x) {
        for (int i = 0; i < 4; i++) {
            out.write(x >> 8 * i);
        }
    }

    // ---- from parts to bytes, for what is no right document ----

    /** Bytes behind one another: of numbers, of texts (a byte a letter) and of other bytes. */
    static byte[] join(Object... parts) {
        ByteArrayOutputStream out = new ByteArrayOutputStream();
        for (Object part : parts) {
            if (part instanceof Integer) {
                out.write((Integer) part);
            } else if (part instanceof byte[]) {
                out.writeBytes((byte[]) part);
            } else {
                for (char c : ((String) part).toCharArray()) {
                    out.write(c);
                }
            }
        }
        return out.toByteArray();
    }

    /** A document of 4 bytes size, these parts and a last 0. */
    static byte[] raw(Object... parts) {
        byte[] inside = join(parts);
        return join(inside.length + 5 & 255, inside.length + 5 >> 8, 0, 0, inside, 0);
    }

    // ---- from bytes to text ----

    static String text(byte[] b) {
        StringBuilder out = new StringBuilder();
        int end = write(b, 0, false, out);
        return end == b.length ? out.toString() : out + " with other bytes behind";
    }

    private static int write(byte[] b, int p, boolean row, StringBuilder out) {
        int last = p + get4(b, p) - 1;
        int at = p + 4;
        int n = 0;
        out.append(row ? '[' : '{');
        while (at < last) {
            int kind = b[at];
            int end = at + 1;
            while (b[end] != 0) {
                end++;
            }
            String name = new String(b, at + 1, end - at - 1, StandardCharsets.UTF_8);
            out.append(n > 0 ? ", " : "");
            if (!row) {
                out.append(name).append(": ");
            } else if (!name.equals(Integer.toString(n))) {
                out.append("item named ").append(name).append(": ");
            }
            at = value(b, kind, end + 1, out);
            n++;
        }
        out.append(row ? ']' : '}');
        return b[last] == 0 ? last + 1 : -1;
    }

    private static int value(byte[] b, int kind, int v, StringBuilder out) {
        switch (kind) {
            case 16: out.append(get4(b, v)); return v + 4;
            case 18: out.append(get4(b, v) & 0xFFFFFFFFL | (long) get4(b, v + 4) << 32).append('L'); return v + 8;
            case 8: out.append(b[v] == 1 ? "true" : b[v] == 0 ? "false" : "wrong truth"); return v + 1;
            case 10: out.append("null"); return v;
            case 2:
                int n = get4(b, v);
                out.append('\'').append(new String(b, v + 4, n - 1, StandardCharsets.UTF_8)).append('\'');
                return v + 4 + n;
            case 3: return write(b, v, false, out);
            case 4: return write(b, v, true, out);
            default: throw new IllegalArgumentException("kind " + kind);
        }
    }

    private static int get4(byte[] b, int p) {
        return b[p] & 255 | (b[p + 1] & 255) << 8 | (b[p + 2] & 255) << 16 | b[p + 3] << 24;
    }

    // ---- asking ----

    /** Feeds bytes, filled up to a multiple of twenty: how many the tape has then. */
    static int feed(DocumentHouse house, byte[] bytes) {
        int tape = house.state(7);
        for (int i = 0; i < bytes.length; i += 20) {
            int[] words = new int[5];
            for (int k = 0; k < 20; k++) {
                int x = i + k < bytes.length ? bytes[i + k] & 255 : 0;
                words[k / 4] = words[k / 4] << 8 | x;
            }
            tape = house.feed(words[0], words[1], words[2], words[3], words[4]);
        }
        return tape;
    }

    static byte[] answer(DocumentHouse house) {
        byte[] answer = new byte[house.state(6)];
        for (int i = 0; i < answer.length; i++) {
            answer[i] = (byte) house.answer(i);
        }
        return answer;
    }

    static String askBytes(DocumentHouse house, byte[] request) {
        if (request.length > 2000) {
            throw new IllegalArgumentException("no tape has room for a request of " + request.length + " bytes");
        }
        feed(house, request);
        int length = house.ask(request.length);
        byte[] answer = answer(house);
        return length == answer.length ? text(answer) : "ask answered " + length + " of " + answer.length;
    }

    static String ask(DocumentHouse house, String request) {
        return askBytes(house, bytes(request));
    }

    // ---- what is due ----

    private static String brief(Object told) {
        String text = told.toString();
        return text.length() < 500 ? text : text.substring(0, 300) + " .. " + text.substring(text.length() - 100);
    }

    static void due(String what, Object got, Object want) {
        if (!got.equals(want)) {
            wrong++;
            System.out.println(brief(what) + "\n  answered " + brief(got) + "\n  due is   " + brief(want));
        }
    }

    /** Asks, and tells when the answer isn't the one that is due. */
    static void asks(DocumentHouse house, String request, String want) {
        due(request, ask(house, request), want);
    }

    static void fault(DocumentHouse house, byte[] request, int fault, int place) {
        due("a request of " + request.length + " bytes", askBytes(house, request),
            "{fault: " + fault + ", place: " + place + "}");
    }

    /** Tells when the documents of a shelf aren't these. */
    static void stand(DocumentHouse house, int shelf, String... due) {
        int total = 0;
        due("documents of shelf " + shelf, house.state(shelf), due.length);
        for (int k = 0; k < due.length; k++) {
            byte[] bytes = new byte[Math.max(house.size(shelf, k), 0)];
            for (int i = 0; i < bytes.length; i++) {
                bytes[i] = (byte) house.byteAt(shelf, k, i);
            }
            total += bytes.length;
            due("document " + k + " of shelf " + shelf, bytes.length == 0 ? "none" : text(bytes), text(bytes(due[k])));
        }
        due("bytes of shelf " + shelf, house.state(2 + shelf), total);
    }

    /** The place of the element that has that name, the so manieth in the order of their places. */
    static int placeOf(byte[] request, String name, int times) {
        int[] left = {times};
        int place = placeIn(request, 0, name, left);
        if (place < 0) {
            throw new IllegalArgumentException("no " + name);
        }
        return place;
    }

    private static int placeIn(byte[] b, int p, String name, int[] left) {
        int at = p + 4;
        int last = p + get4(b, p) - 1;
        while (at < last) {
            int end = at + 1;
            while (b[end] != 0) {
                end++;
            }
            if (new String(b, at + 1, end - at - 1, StandardCharsets.UTF_8).equals(name) && --left[0] == 0) {
                return at;
            }
            if (b[at] == 3 || b[at] == 4) {
                int inside = placeIn(b, end + 1, name, left);
                if (inside >= 0) {
                    return inside;
                }
            }
            at = value(b, b[at], end + 1, new StringBuilder());
        }
        return -1;
    }

    /** Asks for a fault at the element of that name. */
    static void faultAt(DocumentHouse house, String request, int fault, String name) {
        faultAt(house, request, fault, name, 1);
    }

    static void faultAt(DocumentHouse house, String request, int fault, String name, int times) {
        int place = placeOf(bytes(request), name, times);
        asks(house, request, "{fault: " + fault + ", place: " + place + "}");
    }

    static void end() {
        if (wrong > 0) {
            System.out.println(wrong + " wrong");
            System.exit(1);
        }
    }
}
