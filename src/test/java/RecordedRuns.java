import java.nio.file.Files;
import java.nio.file.Path;

/** Runs of requests with the answers and states that are due, as the model under model/ has told them. */
public final class RecordedRuns {
    private static byte[] bytes(String digits) {
        byte[] bytes = new byte[digits.length() / 2];
        for (int i = 0; i < bytes.length; i++) {
            bytes[i] = (byte) Integer.parseInt(digits.substring(2 * i, 2 * i + 2), 16);
        }
        return bytes;
    }

    private static String digits(byte[] bytes) {
        StringBuilder digits = new StringBuilder();
        for (byte b : bytes) {
            digits.append(Character.forDigit(b >> 4 & 15, 16)).append(Character.forDigit(b & 15, 16));
        }
        return digits.toString();
    }

    private static String states(DocumentHouse house) {
        StringBuilder states = new StringBuilder();
        for (int what = 0; what < 7; what++) {
            states.append(what > 0 ? "," : "").append(house.state(what));
        }
        return states.toString();
    }

    public static void main(String[] args) throws Exception {
        DocumentHouse house = new DocumentHouse();
        int line = 0;
        for (String run : Files.readAllLines(Path.of("src/test/data/runs.txt"))) {
            line++;
            if (run.equals("new")) {
                house = new DocumentHouse();
                continue;
            }
            String[] due = run.split(" ");
            byte[] request = bytes(due[0]);
            Docs.feed(house, request);
            int length = house.ask(request.length);
            Docs.due("bytes of the answer of line " + line, length, due[1].length() / 2);
            Docs.due("line " + line, digits(Docs.answer(house)) + " " + states(house), due[1] + " " + due[2]);
        }
        Docs.due("lines", line > 1000, true);
        Docs.end();
    }
}
