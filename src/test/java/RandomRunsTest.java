import java.util.Random;

/** Runs of calls drawn by lot (always the same ones), against the model; at most 512 calls each. */
public final class RandomRunsTest {
    private static final int MOST_CALLS = 512;
    private static final String[] QUESTIONS = {"sort", "madeOf", "tellings", "fixed", "nearest", "sign", "sortOf",
        "bars", "round", "fixes", "order", "count"};
    private static final int[] ODD_ONES = {-1, -2, -3, 4, 8, 16, 20, 1000, 1001, -1000, -1001, 2000, 2001, -2000,
        -2001, Integer.MAX_VALUE, Integer.MIN_VALUE, Integer.MAX_VALUE - 1, Integer.MIN_VALUE + 1};

    private final Random lot;
    private final Pair pair;
    private final boolean dense;
    private int points = 0;
    private int tellings = 0;
    private int bars = 0;
    private final int[] hidden = new int[16];

    private RandomRunsTest(int run) {
        lot = new Random(409L * run + 7);
        pair = new Pair("run " + run);
        dense = run % 2 == 0;
        for (int i = 0; i < 16; i++) {
            hidden[i] = lot.nextInt(201) - 100;
        }
    }

    public static void main(String[] args) {
        int wrong = 0;
        int calls = 0;
        for (int run = 0; run < 300 && wrong == 0; run++) {
            RandomRunsTest test = new RandomRunsTest(run);
            test.go();
            wrong += test.pair.wrong;
            calls += test.pair.made;
        }
        System.out.println(calls + " calls, " + wrong + " answers not as due");
        if (wrong != 0) {
            System.exit(1);
        }
    }

    private void go() {
        int start = lot.nextInt(9);
        for (int i = 0; i < start; i++) {
            addPoint();
        }
        // 30: what the dearest step's own calls come to at most
        while (pair.made < MOST_CALLS - 30) {
            step();
        }
        pair.digest();
    }

    /** Mostly what is there, at times what is just beyond, at times something odd. */
    private int any(int many) {
        int what = lot.nextInt(20);
        if (what == 0) {
            return ODD_ONES[lot.nextInt(ODD_ONES.length)];
        }
        return what == 1 || many == 0 ? many : lot.nextInt(many);
    }

    private int place() {
        int what = lot.nextInt(20);
        if (what == 0) {
            return ODD_ONES[lot.nextInt(ODD_ONES.length)];
        }
        return what < 10 ? lot.nextInt(21) - 10 : lot.nextInt(2001) - 1000;
    }

    private int factor() {
        if (lot.nextInt(30) == 0) {
            return lot.nextInt(11) - 5;
        }
        return lot.nextBoolean() ? 1 + lot.nextInt(3) : -1 - lot.nextInt(3);
    }

    private void addPoint() {
        if (pair.point(place(), place()) >= 0) {
            points++;
        }
    }

    private void step() {
        int what = lot.nextInt(100);
        if (what < 3) {
            addPoint();
        } else if (what < 6) {
            pair.rough(any(points), place(), place());
        } else if (what < 20) {
            addTelling();
        } else if (what < 24) {
            pair.term(any(tellings), any(2 * points), factor());
        } else if (what < 30) {
            pair.takeOff(any(tellings), lot.nextInt(3) > 0);
        } else if (what < 42) {
            if (pair.bar(any(points), any(points)) >= 0) {
                bars++;
            }
        } else if (what < 46) {
            pair.drag(any(points), place(), place(), any(2 * points));
        } else if (what < 52) {
            question();
        } else if (what < 54) {
            pair.strain();
        } else if (what < 60) {
            pair.two(lot.nextBoolean() ? "kept" : "piece", any(points), any(points));
        } else if (what < 62) {
            pair.two("limb", any(2), any(5));
        } else if (what < 64) {
            pair.whole();
        } else if (what < 66) {
            pair.digest();
        } else {
            askOne(QUESTIONS[lot.nextInt(QUESTIONS.length)]);
        }
    }

    private void askOne(String name) {
        int many = switch (name) {
            case "sort", "madeOf" -> tellings;
            case "fixed", "nearest" -> 2 * points;
            case "sortOf", "round" -> bars;
            case "fixes" -> 12;
            case "order" -> points;
            default -> 4;
        };
        pair.one(name, any(many));
    }

    /** In dense runs whole tellings, most of which agree with one hidden drawing, so that some follow. */
    private void addTelling() {
        if (!dense || points == 0) {
            if (pair.telling(place()) >= 0) {
                tellings++;
            }
            return;
        }
        int[] numbers = new int[4];
        int[] factors = new int[4];
        int terms = 1 + lot.nextInt(4);
        int sum = 0;
        int range = lot.nextBoolean() ? 2 * points : Math.min(2 * points, 6);
        for (int i = 0; i < terms; i++) {
            numbers[i] = lot.nextInt(range);
            factors[i] = lot.nextInt(6) == 0 ? factor() : lot.nextBoolean() ? 1 : -1;
            boolean alike = false;
            for (int j = 0; j < i; j++) {
                alike |= numbers[j] == numbers[i];
            }
            sum += alike ? 0 : factors[i] * hidden[numbers[i]];
        }
        int told = pair.telling(lot.nextInt(5) == 0 ? sum + 1 : sum);
        if (told >= 0) {
            tellings++;
            for (int i = 0; i < terms; i++) {
                pair.term(told, numbers[i], factors[i]);
            }
        }
    }

    private void question() {
        pair.one("question", lot.nextInt(3) == 0 ? 0 : place());
        int terms = lot.nextInt(6);
        for (int i = 0; i < terms; i++) {
            pair.ask(any(2 * points), factor());
        }
        pair.holds();
    }
}
