import java.math.BigInteger;
import java.util.function.Consumer;
import java.util.function.ToLongFunction;

/** Runs cases one by one, each by its own name, so that one that fails hides no other. */
final class Cases {
    static final int NONE = DrawnTold.NONE, BAD = DrawnTold.BAD, NO = DrawnTold.NO, FULL = DrawnTold.FULL;
    static final int MOST = Integer.MAX_VALUE, LEAST = Integer.MIN_VALUE;

    private static String current = "";
    private static int cases = 0;
    private static int failed = 0;
    private static boolean fails = false;

    private Cases() {
    }

    static void test(String name, Runnable body) {
        current = name;
        fails = false;
        cases++;
        try {
            body.run();
        } catch (RuntimeException e) {
            say("threw " + e);
        }
        if (fails) {
            failed++;
        }
    }

    /** Exit code 1 if a case failed. */
    static void end() {
        System.out.println(cases + " cases, " + failed + " failed");
        if (failed != 0) {
            System.exit(1);
        }
    }

    private static void say(String what) {
        fails = true;
        System.out.println(current + ": " + what);
    }

    static void due(String what, long got, long want) {
        if (got != want) {
            say(what + " answered " + got + ", due is " + want);
        }
    }

    static void due(long got, long want) {
        due("it", got, want);
    }

    static void fractionIs(DrawnTold d, String want) {
        String got = fraction(d);
        if (!got.equals(want)) {
            say("the fraction is " + got + ", due is " + want);
        }
    }

    /** As "above/below", put together from its limbs. */
    static String fraction(DrawnTold d) {
        BigInteger above = joined(d, 0).multiply(BigInteger.valueOf(d.sign(0)));
        return above + "/" + joined(d, 1);
    }

    private static BigInteger joined(DrawnTold d, int which) {
        BigInteger value = BigInteger.ZERO;
        for (int i = d.sign(1 + which) - 1; i >= 0; i--) {
            value = value.shiftLeft(30).add(BigInteger.valueOf(d.limb(which, i)));
        }
        return value;
    }

    /**
     * The call is answered so, and whatever is called later answers as if it had not been made:
     * of two objects made alike one gets the call, then both are asked for all they know.
     */
    static void refused(String name, Consumer<DrawnTold> making, ToLongFunction<DrawnTold> call, int answer) {
        test(name, () -> {
            DrawnTold with = new DrawnTold();
            DrawnTold without = new DrawnTold();
            making.accept(with);
            making.accept(without);
            due(call.applyAsLong(with), answer);
            String difference = Portrait.difference(Portrait.of(with), Portrait.of(without));
            if (difference != null) {
                say("it changed something: " + difference);
            }
        });
    }

    // ---- drawings to begin with

    static DrawnTold withPoints(int many) {
        DrawnTold d = new DrawnTold();
        addPoints(d, many);
        return d;
    }

    /** Point i lies at (10 i, i). */
    static void addPoints(DrawnTold d, int many) {
        for (int i = 0; i < many; i++) {
            due("point " + i, d.point(10 * i, i), i);
        }
    }

    /** A telling with its terms: number, times, number, times .. */
    static int tell(DrawnTold d, int n, int... terms) {
        int telling = d.telling(n);
        for (int i = 0; i < terms.length; i += 2) {
            due("term " + i / 2 + " of telling " + telling, d.term(telling, terms[i], terms[i + 1]), i / 2 + 1);
        }
        return telling;
    }

    static void question(DrawnTold d, int n, int... terms) {
        due("question", d.question(n), 1);
        for (int i = 0; i < terms.length; i += 2) {
            due("ask " + i / 2, d.ask(terms[i], terms[i + 1]), i / 2 + 1);
        }
    }

    /** Bars: a, b, a, b .. */
    static void addBars(DrawnTold d, int... ends) {
        int first = d.count(3);
        for (int i = 0; i < ends.length; i += 2) {
            due("bar " + i / 2, d.bar(ends[i], ends[i + 1]), first + i / 2);
        }
    }

    /** So many bars, pair by pair: 0 1, 0 2, .. */
    static void addBarsInTurn(DrawnTold d, int many) {
        int points = d.count(0);
        int bars = 0;
        for (int a = 0; a < points; a++) {
            for (int b = a + 1; b < points && bars < many; b++) {
                due("bar " + bars, d.bar(a, b), bars);
                bars++;
            }
        }
        due("bars in turn", bars, many);
    }

    /** All that can be there is there: points, tellings and their terms, the question's, bars. */
    static void fill(DrawnTold d) {
        addPoints(d, 8);
        for (int t = 0; t < 20; t++) {
            tell(d, totalOfFull(t), termsOfFull(t));
        }
        d.takeOff(4, true);
        d.takeOff(13, true);
        question(d, 7, 0, 1, 1, -1, 2, 2, 3, -3);
        addBarsInTurn(d, 20);
        due("strain", d.strain(), 1);
    }

    /** The first 13 are new. Those behind are the first ones turned round, every other one with 1 too many. */
    static int totalOfFull(int telling) {
        return telling < 13 ? 100 * telling - 900 : -totalOfFull(telling - 13) + telling % 2;
    }

    static int[] termsOfFull(int telling) {
        int t = telling % 13;
        int side = telling < 13 ? 1 : -1;
        return new int[] {t, side * (1 + t % 3), (t + 3) % 16, side * -2, (t + 7) % 16, side * 3, (t + 12) % 16,
            side * -1};
    }
}
