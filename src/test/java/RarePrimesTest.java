/**
 * Tellings, found by search, in which several primes of DrawnTold fail at once: of its three witnesses
 * one is blind and one is mistaken, or its long numbers must do without two primes. All against the model.
 */
public final class RarePrimesTest {
    /** Fifteen tellings each (NUMBER, times, ..), then two that make up a multiple of a prime with them. */
    private static final int[][][] JOINED = {
        { // with the sixteenth a multiple of 2147483629, with the seventeenth of 2147483647
            {0, -2, 8, -3, 10, 3, 14, 3},
            {1, 2, 4, 3, 5, -3, 12, 3},
            {2, 2, 6, 3, 7, -3, 9, 3},
            {4, 2, 6, -3, 9, 3, 12, -3},
            {5, -2, 9, -3, 12, -3, 15, 3},
            {1, -3, 4, -3, 5, -3, 6, -2},
            {0, 3, 3, 3, 7, 2, 15, -3},
            {3, 3, 8, -2, 10, -3, 11, -3},
            {3, 3, 7, -3, 9, -2, 13, 3},
            {8, 3, 10, 2, 13, -3, 15, -3},
            {2, 3, 4, -3, 11, -2, 13, 3},
            {10, 3, 12, 2, 14, -3, 15, 3},
            {2, 3, 6, -3, 11, 3, 13, -2},
            {0, 3, 1, 3, 7, -3, 14, 2},
            {2, -1, 4, 1, 7, 1, 14, 3},
            {3, 2, 4, 2, 7, -3, 10, -3},
            {0, 3, 3, -2, 4, 3, 9, -3},
        },
        { // with the sixteenth a multiple of 2147483587, with the seventeenth of 2147483647
            {0, -2, 2, 3, 10, 3, 11, 3},
            {1, 2, 7, 3, 12, -3, 14, -3},
            {2, 2, 5, 3, 10, -3, 12, 3},
            {3, -2, 7, 3, 8, -3, 14, 3},
            {4, 2, 9, -3, 10, 3, 15, 3},
            {0, 3, 1, 3, 5, -2, 6, -3},
            {2, -3, 4, 3, 7, 2, 12, 3},
            {1, -3, 8, -2, 9, -3, 11, 3},
            {3, -3, 8, -3, 9, 2, 14, -3},
            {6, -3, 9, 3, 10, -2, 15, 3},
            {0, 3, 9, 3, 11, -2, 13, -3},
            {4, -3, 8, 3, 10, 3, 12, 2},
            {3, -3, 8, 3, 12, -3, 13, 2},
            {0, 3, 6, 3, 13, 3, 14, 2},
            {3, -2, 10, 1, 11, 3, 14, -3},
            {1, -2, 2, 1, 6, 2, 11, 1},
            {5, -3, 6, 2, 10, -3, 13, -3},
        },
        { // with the sixteenth a multiple of 2147483587, with the seventeenth of 2147483629
            {0, 2, 5, -3, 11, 3, 15, -3},
            {1, -2, 6, -3, 7, -3, 12, -3},
            {1, 3, 2, -2, 10, 3, 14, -3},
            {3, -2, 4, 3, 7, -3, 13, -3},
            {4, -2, 10, 3, 11, -3, 15, -3},
            {0, -3, 5, 2, 8, -3, 11, 3},
            {1, 3, 3, -3, 6, -2, 8, -3},
            {2, -3, 3, -3, 7, 2, 14, -3},
            {0, -3, 1, 3, 8, 2, 15, -3},
            {2, -3, 3, 3, 9, 2, 15, -3},
            {6, -3, 9, -3, 10, -2, 12, 3},
            {4, -3, 5, 3, 8, 3, 11, 2},
            {9, -3, 10, -3, 12, -2, 13, -3},
            {6, -3, 7, 3, 10, 3, 13, -2},
            {0, -3, 2, 3, 9, 3, 14, -2},
            {4, 2, 8, 2, 12, -2, 14, -1},
            {1, -2, 2, 1, 4, -2, 14, -2},
        },
    };

    /**
     * What tellings 13 and 14 of these are told to be, and x of POINT 0 and y of POINT 7 asked: with the
     * sixteenth, with the seventeenth. To the third prime this looks as if it always held.
     */
    private static final int[][][] TOTALS = {
        {{-1139, 151, 1610}, {-1973, 276, 252}},
        {{-1731, -388, 75}, {-1641, -1911, 514}},
        {{-1977, 1995, 587}, {-1860, 1015, -369}},
    };
    private static final int[] ASKED = {0, 1, 15, 1};

    /** Fifteen tellings each of the NUMBERS 0 to 14, whose determinant is a multiple of a prime. */
    private static final int[][][] FIFTEEN = {
        { // a multiple of 2147483647
            {0, 2, 1, 3, 2, -3, 5, -3},
            {1, -2, 7, -3, 9, -3, 11, -3},
            {2, 2, 3, 3, 6, -3, 10, 3},
            {0, -3, 3, -2, 5, -3, 13, -3},
            {1, 3, 4, -2, 8, 3, 9, -3},
            {0, 3, 5, -2, 7, 3, 11, -3},
            {4, 3, 5, -3, 6, -2, 10, -3},
            {2, -3, 7, 2, 8, 3, 9, 3},
            {4, -3, 6, -3, 8, -2, 14, 3},
            {4, -3, 9, 2, 10, -3, 12, -3},
            {2, -3, 8, -3, 10, -2, 14, -3},
            {1, -3, 5, -3, 7, 3, 11, 2},
            {0, -3, 3, 3, 6, 3, 12, 2},
            {4, -3, 5, -3, 12, 3, 13, 2},
            {1, -3, 2, -2, 10, -1, 13, 3},
        },
        { // a multiple of 2147483629
            {0, -2, 3, 3, 5, -3, 7, 3},
            {1, -2, 2, -3, 9, -3, 13, 3},
            {2, 2, 7, 3, 8, 3, 13, 3},
            {0, 3, 3, 2, 5, 3, 7, -3},
            {4, 2, 10, -3, 11, -3, 12, -3},
            {1, 3, 5, -2, 6, -3, 14, -3},
            {0, 3, 1, -3, 4, -3, 6, 2},
            {2, 3, 7, -2, 10, -3, 14, -3},
            {4, 3, 7, 3, 8, 2, 12, 3},
            {1, -3, 5, -3, 6, -3, 9, 2},
            {0, 3, 9, -3, 10, -2, 14, 3},
            {6, 3, 9, 3, 11, -2, 13, 3},
            {5, -3, 8, 3, 9, -3, 12, -2},
            {2, -3, 10, -3, 11, 3, 13, -2},
            {10, 3, 11, 2, 12, -3, 14, -1},
        },
        { // a multiple of 2147483587
            {0, -2, 1, 3, 3, 3, 9, -3},
            {1, 2, 2, -3, 5, -3, 12, 3},
            {0, 3, 2, 2, 4, -3, 12, 3},
            {3, -2, 5, 3, 6, -3, 13, -3},
            {3, 3, 4, -2, 9, 3, 10, -3},
            {5, -2, 7, 3, 11, 3, 13, -3},
            {0, -3, 6, 2, 10, 3, 13, -3},
            {4, -3, 5, -3, 7, -2, 8, 3},
            {0, -3, 8, 2, 10, -3, 12, 3},
            {1, -3, 3, 3, 9, -2, 14, 3},
            {2, 3, 5, -3, 9, 3, 10, 2},
            {0, 3, 4, 3, 7, 3, 11, -2},
            {6, -3, 8, 3, 12, 2, 14, -3},
            {0, 3, 11, -3, 13, -2, 14, -3},
            {4, 2, 6, 1, 8, 3, 14, -2},
        },
    };

    /** Seven tellings each of the NUMBERS 0 to 7: the determinant of their products with one another. */
    private static final int[][][] SEVEN = {
        { // 2147483647
            {0, 2, 2, -3, 4, -3, 6, 3},
            {0, 3, 1, -2, 3, -3, 6, -3},
            {2, 2, 4, -3, 5, -3, 7, 3},
            {0, 3, 1, 3, 3, -2, 5, -3},
            {3, 3, 4, -2, 6, -3, 7, -3},
            {0, 3, 2, 3, 5, 2, 6, 3},
            {0, 1, 1, -2, 4, 2, 6, -2},
        },
        { // 2147483629
            {0, -2, 2, 3, 4, 3, 5, -3},
            {1, -2, 2, -3, 3, 3, 4, 3},
            {0, 3, 2, 2, 4, 3, 5, -3},
            {3, -2, 5, 3, 6, -3, 7, -3},
            {1, -3, 3, -3, 4, -2, 5, -3},
            {1, -3, 2, 3, 3, 3, 5, 2},
            {0, 1, 4, -3, 5, -3, 6, 1},
        },
        { // 4 times 2147483587
            {0, 2, 1, -3, 6, 3, 7, -3},
            {0, -3, 1, -2, 2, -3, 5, -3},
            {0, -3, 2, 2, 4, 3, 6, 3},
            {0, -3, 2, 3, 3, -2, 4, -3},
            {1, -3, 4, 2, 5, 3, 7, 3},
            {1, -3, 2, 3, 3, 3, 5, -2},
            {0, 1, 3, 3, 6, 2, 7, 3},
        },
        { // 2 times 2147483579
            {0, -2, 4, -3, 5, 3, 7, -3},
            {0, 3, 1, 2, 2, 3, 3, -3},
            {0, 3, 2, -2, 5, 3, 7, 3},
            {3, -2, 4, 3, 5, 3, 6, 3},
            {0, -3, 1, 3, 4, 2, 7, 3},
            {4, 3, 5, 2, 6, -3, 7, -3},
            {0, 1, 3, 3, 5, -3, 7, -2},
        },
        { // 2147483563
            {0, -2, 3, 3, 4, 3, 5, -3},
            {0, -3, 1, 2, 4, -3, 7, 3},
            {0, 3, 1, -3, 2, 2, 6, 3},
            {1, 3, 3, -2, 4, 3, 7, 3},
            {2, 3, 3, 3, 4, -2, 6, -3},
            {0, -3, 1, -3, 3, -3, 5, -2},
            {0, 1, 1, -2, 5, -2, 7, 2},
        },
        { // 2 times 2147483549
            {0, -2, 2, -3, 5, 3, 7, 3},
            {1, 2, 3, 3, 5, 3, 6, -3},
            {0, 3, 2, -2, 5, 3, 6, 3},
            {0, -3, 3, 2, 4, 3, 6, 3},
            {1, 3, 3, -3, 4, -2, 6, 3},
            {2, 3, 3, -3, 4, 3, 5, 2},
            {0, 1, 4, -2, 6, 1, 7, 3},
        },
    };

    /** Of the first 9, 12 and 15 that determinant is a multiple of the first, second and third prime. */
    private static final int[][] THREE_SWAPS = {
        {0, -2, 1, -3, 3, 3, 6, 3},
        {0, -3, 1, 2, 2, -3, 15, -3},
        {2, 2, 7, -3, 9, -3, 14, 3},
        {3, 2, 5, -3, 9, -3, 14, -3},
        {3, -3, 4, -2, 7, -3, 14, -3},
        {0, 3, 5, -2, 6, 3, 8, -3},
        {4, -3, 6, -2, 8, -3, 13, -3},
        {0, -3, 5, -3, 7, 2, 11, -3},
        {0, 1, 2, -1, 3, 1, 10, 1},
        {7, 3, 9, -2, 11, -3, 15, -3},
        {4, -3, 7, 3, 8, 3, 10, -2},
        {3, 3, 7, -1, 8, -2, 9, 3},
        {4, -3, 8, -3, 12, 2, 13, 3},
        {5, 3, 12, -3, 13, 2, 15, 3},
        {2, 3, 3, 3, 6, -2, 14, -3},
    };

    private static int wrong = 0;

    public static void main(String[] args) {
        for (int which = 0; which < JOINED.length; which++) {
            oneSees(which, 0);
            oneSees(which, 1);
        }
        for (int prime = 0; prime < FIFTEEN.length; prime++) {
            blindEarly(prime);
        }
        for (int one = 0; one < SEVEN.length; one++) {
            for (int other = 0; other < SEVEN.length; other++) {
                twoPassedOver(one, other);
            }
        }
        threeSwaps();
        System.out.println(wrong + " answers not as due");
        if (wrong != 0) {
            System.exit(1);
        }
    }

    private static void check(String what, long got, long want) {
        if (got != want) {
            wrong++;
            System.out.println(what + " is " + got + ", due is " + want);
        }
    }

    /** Behind one of the two a witness is blind, and the next does not see that one in the other. */
    private static void oneSees(int which, int last) {
        int[][] rows = JOINED[which];
        int[] totals = TOTALS[which][last];
        Pair pair = GreatNumbersTest.start("one sees " + which + " " + last);
        for (int i = 0; i < 15; i++) {
            GreatNumbersTest.tell(pair, i < 13 ? 100 * i - 700 : totals[i - 13], rows[i]);
        }
        GreatNumbersTest.tell(pair, 0, rows[16 - last]);
        GreatNumbersTest.tell(pair, 900, rows[15 + last]);
        pair.one("question", totals[2]);
        pair.ask(ASKED[0], ASKED[1]);
        pair.ask(ASKED[2], ASKED[3]);
        for (int turn = 0; turn < 2; turn++) {
            check("the other is a part", pair.one("madeOf", 16) >> 15 & 1, 1);
            pair.holds();
            // Now another witness is blind, the first one sees again, and only it sees that this never holds.
            pair.takeOff(15, true);
            check("it is new", pair.one("sort", 16), 0);
            check("it never holds", pair.holds(), 0);
            pair.one("fixed", 3);
            pair.digest();
            pair.takeOff(15, false);
        }
        pair.takeOff(15, true);
        int told = GreatNumbersTest.tell(pair, totals[2], ASKED);
        check("it quarrels", pair.one("sort", told), 2);
        pair.one("madeOf", told);
        pair.strain();
        wrong += pair.wrong;
    }

    /** A witness is blind while one more is told, or dragged, which then goes again. */
    private static void blindEarly(int prime) {
        int[][] rows = FIFTEEN[prime];
        Pair pair = GreatNumbersTest.start("blind early " + prime);
        for (int i = 0; i < 15; i++) {
            GreatNumbersTest.tell(pair, 50 * i - 400, rows[i]);
        }
        check("fifteen are new", pair.one("tellings", 0), 15);
        pair.drag(7, 3, 4, 15);
        int again = GreatNumbersTest.tell(pair, 300, rows[14]);
        check("it follows behind a drag", pair.one("sort", again), 1);
        check("from that one alone", pair.one("madeOf", again), 1 << 14);
        pair.takeOff(again, true);
        int more = GreatNumbersTest.tell(pair, 7, new int[] {15, 1});
        check("sixteen are new", pair.one("tellings", 0), 16);
        pair.takeOff(more, true);
        pair.takeOff(again, false);
        check("it follows behind one that is off", pair.one("sort", again), 1);
        check("and still from that one alone", pair.one("madeOf", again), 1 << 14);
        pair.one("fixed", 14);
        pair.one("fixed", 15);
        pair.digest();
        wrong += pair.wrong;
    }

    private static void twoPassedOver(int one, int other) {
        Pair pair = GreatNumbersTest.start("passed over " + one + " " + other);
        for (int i = 0; i < 7; i++) {
            GreatNumbersTest.tell(pair, 333 * i - 1000, SEVEN[one][i]);
            int[] terms = SEVEN[other][i].clone();
            for (int k = 0; k < terms.length; k += 2) {
                terms[k] += 8;
            }
            GreatNumbersTest.tell(pair, 2000 - 77 * i, terms);
        }
        check("fourteen are new", pair.one("tellings", 0), 14);
        pair.strain();
        pair.one("nearest", 3);
        pair.one("nearest", 12);
        pair.drag(1, -999, 1000, 2);
        wrong += pair.wrong;
    }

    private static void threeSwaps() {
        Pair pair = GreatNumbersTest.start("three swaps");
        for (int i = 0; i < THREE_SWAPS.length; i++) {
            GreatNumbersTest.tell(pair, 2000 - 250 * i, THREE_SWAPS[i]);
            pair.strain();
        }
        GreatNumbersTest.tell(pair, -2000, new int[] {1, 1, 13, 1});
        check("sixteen are new", pair.one("tellings", 0), 16);
        pair.strain();
        for (int number = 0; number < 16; number++) {
            pair.one("fixed", number);
        }
        wrong += pair.wrong;
    }
}
