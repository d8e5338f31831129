import java.util.ArrayList;
import java.util.List;
import java.util.Set;
import java.util.stream.IntStream;

/**
 * In drawings from empty to full, every call with every choice of values at and beyond the
 * edges, against the model. What is refused, or only asks, must leave all as it was: a batch
 * of such calls is made of one drawing, and its portrait compared with that of an untouched one.
 */
public final class EdgeGridTest {
    private static final int MOST = Integer.MAX_VALUE, LEAST = Integer.MIN_VALUE;
    /** So that making the drawing, the batch and the portrait stay within 512 calls. */
    private static final int BATCH = 60;
    private static final int[] PLACES = {LEAST, -1001, -1000, 0, 1000, 1001, MOST};
    private static final int[] TOTALS = {LEAST, -2001, -2000, 0, 5, 2000, 2001, MOST};
    private static final int[] TIMES = {LEAST, -4, -3, -1, 0, 1, 3, 4, MOST};
    private static final int[] TRUTHS = {0, 1};
    private static final int[] WHATS = {LEAST, -11, -10, -9, -6, -5, -4, -3, -2, -1, 0, 1, 2, 3, 4, 5, 6, 9, 10, 27,
        28, MOST};

    private static final Set<String> CHANGERS = Set.of("point", "rough", "telling", "term", "takeOff", "fixed",
        "question", "ask", "nearest", "strain", "drag", "bar");

    private static int wrong = 0;
    private static int made = 0;

    private final String name;
    private final List<Call> making;
    private final List<Call> asking = new ArrayList<>();
    private final List<Call> changing = new ArrayList<>();
    private final int points;
    private final int tellings;
    private final int bars;

    private EdgeGridTest(String name, List<Call> making) {
        this.name = name;
        this.making = making;
        DrawnTold d = make(new DrawnTold());
        points = d.count(0);
        tellings = d.count(1);
        bars = d.count(3);
    }

    public static void main(String[] args) {
        List<Call> calls = new ArrayList<>();
        new EdgeGridTest("nothing", List.copyOf(calls)).go();
        calls.add(call("point", 3, 4));
        new EdgeGridTest("a point", List.copyOf(calls)).go();
        few(calls);
        new EdgeGridTest("a few", List.copyOf(calls)).go();
        new EdgeGridTest("all but one", nearlyFull(1)).go();
        new EdgeGridTest("all", nearlyFull(0)).go();
        System.out.println(made + " calls, " + wrong + " answers not as due");
        if (wrong != 0) {
            System.exit(1);
        }
    }

    private static Call call(String name, int... values) {
        return new Call(name, values);
    }

    private static void few(List<Call> calls) {
        calls.add(call("point", -10, 20));
        calls.add(call("point", 30, -7));
        calls.add(call("telling", 12));
        calls.add(call("term", 0, 0, 1));
        calls.add(call("term", 0, 2, -1));
        calls.add(call("telling", 13));
        calls.add(call("telling", 0));
        calls.add(call("telling", 8));
        calls.add(call("term", 3, 5, 3));
        calls.add(call("telling", 9));
        calls.add(call("term", 4, 1, 2));
        calls.add(call("takeOff", 4, 1));
        calls.add(call("question", 16));
        calls.add(call("ask", 5, 2));
        calls.add(call("bar", 2, 0));
        calls.add(call("bar", 1, 0));
        calls.add(call("drag", 0, 5, 5, 5));
    }

    /** Room left for so many of everything. */
    private static List<Call> nearlyFull(int room) {
        List<Call> calls = new ArrayList<>();
        for (int p = 0; p < 8 - room; p++) {
            calls.add(call("point", 100 * p - 300, 50 - 17 * p * p));
        }
        int numbers = 2 * (8 - room);
        for (int t = 0; t < 20 - room; t++) {
            calls.add(call("telling", 90 * t - 700));
            for (int i = 0; i < 4 - room; i++) {
                int times = 1 + (t + i) % 3;
                calls.add(call("term", t, (t + 2 * i + t / 7 * i) % numbers, (t * i) % 2 == 0 ? times : -times));
            }
        }
        calls.add(call("takeOff", 2, 1));
        calls.add(call("takeOff", 11, 1));
        calls.add(call("question", 1999));
        for (int i = 0; i < 4 - room; i++) {
            calls.add(call("ask", 3 * i, 3 - 2 * i));
        }
        int bars = 0;
        for (int step = 1; step < 4; step++) {
            for (int a = 0; a < 8 - room && bars < 20 - room; a++) {
                calls.add(call("bar", a, (a + step) % (8 - room)));
                bars++;
            }
        }
        calls.add(call("strain"));
        return calls;
    }

    private <T> T make(T drawing) {
        for (Call call : making) {
            if (call.of(drawing) < 0) {
                throw new IllegalStateException(name + ": " + call + " should be taken");
            }
        }
        return drawing;
    }

    private void go() {
        listCalls();
        changes();
        leavesAll();
    }

    /** What the model refuses, and what only asks, changes nothing; the rest does. */
    private void sift(String method, int[]... choices) {
        Model model = make(new Model());
        for (Call call : Call.all(method, choices)) {
            long answer = call.of(model);
            boolean changes = CHANGERS.contains(method) && answer >= 0 && !(method.equals("fixed") && answer == 0);
            if (changes) {
                changing.add(call);
                model = make(new Model());
            } else {
                asking.add(call);
            }
        }
    }

    private void listCalls() {
        int[] ofPoints = edges(points, 8);
        int[] ofNumbers = edges(2 * points, 16);
        int[] ofTellings = edges(tellings, 20);
        int[] ofBars = edges(bars, 20);
        sift("point", PLACES, PLACES);
        sift("rough", ofPoints, PLACES, PLACES);
        sift("telling", TOTALS);
        sift("term", ofTellings, ofNumbers, TIMES);
        sift("takeOff", ofTellings, TRUTHS);
        sift("sort", ofTellings);
        sift("madeOf", ofTellings);
        sift("tellings", WHATS);
        sift("fixed", ofNumbers);
        sift("question", TOTALS);
        sift("ask", ofNumbers, TIMES);
        sift("holds");
        sift("nearest", ofNumbers);
        sift("strain");
        sift("drag", ofPoints, new int[] {-1001, -1000, 1000, 1001}, new int[] {LEAST, -1000, 1000, MOST}, ofNumbers);
        sift("sign", WHATS);
        sift("limb", WHATS, WHATS);
        sift("bar", ofPoints, ofPoints);
        sift("sortOf", ofBars);
        sift("bars", WHATS);
        sift("round", ofBars);
        sift("kept", ofPoints, ofPoints);
        sift("piece", ofPoints, ofPoints);
        sift("fixes", WHATS);
        sift("order", ofPoints);
        sift("whole");
        sift("count", WHATS);
        sift("digest");
    }

    private static int[] edges(int many, int most) {
        return IntStream.of(LEAST, -2, -1, 0, 1, many / 2, many - 1, many, many + 1, most - 1, most,
            most + 1, MOST).distinct().sorted().toArray();
    }

    private void due(Call call, long got, long want) {
        made++;
        if (got != want) {
            wrong++;
            System.out.println("in " + name + ": " + call + " answered " + got + ", due is " + want);
        }
    }

    private void changes() {
        for (Call call : changing) {
            DrawnTold drawn = make(new DrawnTold());
            Model model = make(new Model());
            due(call, call.of(drawn), call.of(model));
            due(new Call("digest behind " + call, new int[0]), drawn.digest(), model.digest());
        }
    }

    private void leavesAll() {
        List<String> untouched = Portrait.of(make(new DrawnTold()));
        Model model = make(new Model());
        for (int first = 0; first < asking.size(); first += BATCH) {
            DrawnTold drawn = make(new DrawnTold());
            List<Call> batch = asking.subList(first, Math.min(first + BATCH, asking.size()));
            for (Call call : batch) {
                due(call, call.of(drawn), call.of(model));
            }
            String difference = Portrait.difference(Portrait.of(drawn), untouched);
            if (difference != null) {
                wrong++;
                System.out.println("in " + name + ": behind " + batch + " " + difference);
            }
        }
    }
}
