import java.io.*;

/** Reads requests as hexadecimal digits, and tells the answers and states of a house. */
public class Drive {
    static String hex(int x) { return Character.toString("0123456789abcdef".charAt(x >> 4)) + "0123456789abcdef".charAt(x & 15); }
    public static void main(String[] args) throws Exception {
        BufferedReader in = new BufferedReader(new InputStreamReader(System.in));
        PrintStream out = new PrintStream(new BufferedOutputStream(System.out, 1 << 20));
        DocumentHouse h = new DocumentHouse();
        String line;
        while ((line = in.readLine()) != null) {
            if (line.equals("new")) { h = new DocumentHouse(); continue; }
            if (line.equals("dump")) {
                StringBuilder s = new StringBuilder();
                for (int sh = 0; sh < 2; sh++) {
                    if (sh > 0) s.append(';');
                    for (int k = 0; k < h.state(sh); k++) {
                        if (k > 0) s.append(',');
                        s.append(h.number(sh, k)).append(':');
                        for (int i = 0; i < h.size(sh, k); i++) s.append(hex(h.byteAt(sh, k, i)));
                    }
                }
                out.println(s); continue;
            }
            byte[] b = new byte[line.length() / 2];
            for (int i = 0; i < b.length; i++) b[i] = (byte) Integer.parseInt(line.substring(2 * i, 2 * i + 2), 16);
            for (int i = 0; i < b.length; i += 20) {
                int[] w = new int[5];
                for (int k = 0; k < 20; k++) { int x = i + k < b.length ? b[i + k] & 255 : 0; w[k / 4] = w[k / 4] << 8 | x; }
                h.feed(w[0], w[1], w[2], w[3], w[4]);
            }
            int n = h.ask(b.length);
            StringBuilder s = new StringBuilder();
            for (int i = 0; i < n; i++) s.append(hex(h.answer(i)));
            s.append(' ');
            for (int i = 0; i < 7; i++) s.append(i > 0 ? "," : "").append(h.state(i));
            out.println(s);
        }
        out.flush();
    }
}
