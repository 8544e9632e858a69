import java.lang.management.ManagementFactory;
import java.util.ArrayList;
import java.util.List;

/**
 * The objects and arrays of all calls of one run have room for some 7,300,000 fields and elements. An element has a byte
 * at least, so runs whose calls take fewer bytes than that have enough.
 */
public final class RoomOfOneRun {
    private static final long MOST = 7_300_000;

    private static long taken() {
        var threads = (com.sun.management.ThreadMXBean) ManagementFactory.getThreadMXBean();
        return threads.getThreadAllocatedBytes(Thread.currentThread().getId());
    }

    private static String items(int from, int to) {
        StringBuilder items = new StringBuilder("[");
        for (int i = from; i < to; i++) {
            items.append(i > from ? ", " : "").append(i);
        }
        return items + "]";
    }

    /** The bytes that a run takes, of which a feed and an ask are calls, up to 512. */
    private static long run(List<String> requests) {
        long before = taken();
        DocumentHouse house = new DocumentHouse();
        long bytes = taken() - before;
        int calls = 0;
        for (String request : requests) {
            byte[] document = Docs.bytes(request);
            int tape = Docs.feed(house, document);
            calls += tape / 20 + 1;
            if (calls > 512) {
                break;
            }
            before = taken();
            house.ask(document.length);
            bytes += taken() - before;
        }
        return bytes;
    }

    private static void fits(String what, List<String> requests) {
        run(requests);
        long bytes = run(requests);
        Docs.due(what + " takes " + bytes + " bytes, which is enough room", bytes < MOST, true);
    }

    /** Eight indexes of two paths, each with nearly 1,000 entries, of which each update takes out many. */
    private static List<String> fullIndexes() {
        List<String> requests = new ArrayList<>();
        for (int i = 0; i < 8; i++) {
            requests.add("{index: ['a', 'b'], shelf: " + i / 4 + ", down: [" + (i % 2 == 0) + ", " + (i % 3 == 0) + "]}");
        }
        for (int shelf = 0; shelf < 2; shelf++) {
            requests.add("{insert: {a: " + items(0, 31) + ", b: " + items(0, 32) + "}, shelf: " + shelf + "}");
        }
        for (int i = 0; i < 30; i++) {
            requests.add("{update: {}, shelf: " + i % 2 + ", change: {$inc: {a." + i + ": 1000}}}");
            requests.add("{delete: {zz: 1}, shelf: " + i % 2 + "}");
        }
        return requests;
    }

    /** Indexes that come and go with all their entries. */
    private static List<String> newIndexes() {
        List<String> requests = new ArrayList<>();
        for (int shelf = 0; shelf < 2; shelf++) {
            requests.add("{insert: {a: " + items(0, 31) + ", b: " + items(0, 32) + "}, shelf: " + shelf + "}");
        }
        for (int i = 0; i < 200; i++) {
            requests.add("{index: ['a', 'b'], shelf: " + i % 2 + ", down: [true, false]}");
            requests.add("{drop: " + (i % 3 == 0 ? 0 : 1) + ", shelf: " + i % 2 + "}");
        }
        return requests;
    }

    /** Belts that are made anew again and again, with as many leaves as a document can have. */
    private static List<String> manyStages() {
        List<String> requests = new ArrayList<>();
        for (int i = 0; i < 4; i++) {
            requests.add("{insert: {a: [{a: [{a: " + items(0, 40) + "}, {a: [1, 2]}]}, {a: [3]}], b: " + items(0, 50) + "}, shelf: "
                + i % 2 + "}");
        }
        String stages = "{$unwind: '$b'}, {$lookup: {here: 'a.a.a', there: 'a.a.a', as: 'o'}}, {$project: {b: '$a.a.a'}}, "
            + "{$group: {by: '$b', p: {$addToSet: '$b'}}}, {$sort: {b: 1, by: -1}}";
        for (int i = 0; i < 40; i++) {
            requests.add("{pipeline: [" + stages + "], shelf: " + i % 2 + "}");
        }
        return requests;
    }

    public static void main(String[] args) {
        fits("a run of full indexes", fullIndexes());
        fits("a run of new indexes", newIndexes());
        fits("a run of stages", manyStages());
        Docs.end();
    }
}
