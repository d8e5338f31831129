/**
 * Where the numbers grow greatest, and where a determinant is a multiple of one of the primes
 * that DrawnTold reckons with; all against the model.
 */
public final class GreatNumbersTest {
    /** Sixteen tellings each (NUMBER, times, ..), whose determinant is not 0 but a multiple of a prime. */
    private static final int[][][] MULTIPLES = {
        { // a multiple of 2147483647
            {0, -2, 1, 3, 13, 3, 15, -3},
            {1, -2, 7, -3, 9, 3, 10, -3},
            {2, -2, 12, 3, 14, -3, 15, -3},
            {3, 2, 8, 3, 9, 3, 10, 3},
            {1, 3, 4, 2, 9, 3, 11, -3},
            {0, 3, 5, 2, 7, -3, 13, 3},
            {1, -3, 6, -2, 11, -3, 13, 3},
            {6, -3, 7, 2, 8, 3, 10, -3},
            {0, -3, 7, -3, 8, 2, 15, 3},
            {2, 3, 3, -3, 5, 3, 9, -2},
            {4, -3, 5, 3, 6, 3, 10, -2},
            {2, -3, 3, -3, 11, -2, 15, -3},
            {4, 3, 5, 3, 7, -3, 12, -2},
            {4, -3, 6, -3, 12, 3, 13, -2},
            {4, -3, 12, -3, 14, -2, 15, 3},
            {10, -1, 13, 2, 11, -3, 14, 1},
        },
        { // a multiple of 2147483629
            {0, 2, 1, -3, 3, -3, 10, 3},
            {1, -2, 6, -3, 7, -3, 15, 3},
            {2, 2, 3, -3, 6, 3, 13, 3},
            {3, 2, 7, -3, 10, -3, 15, -3},
            {1, -3, 2, 3, 3, 3, 4, -2},
            {5, 2, 10, 3, 13, 3, 14, -3},
            {1, 3, 4, 3, 5, -3, 6, -2},
            {5, -3, 7, 2, 10, 3, 12, -3},
            {4, -3, 6, -3, 8, 2, 14, 3},
            {3, -3, 9, 2, 10, -3, 11, 3},
            {0, -3, 4, -3, 10, -2, 12, 3},
            {2, 3, 6, -3, 11, -2, 12, -3},
            {4, 3, 9, -3, 12, -2, 13, 3},
            {1, 3, 4, 3, 11, 3, 13, -2},
            {1, -3, 4, 3, 8, 3, 14, 2},
            {3, 1, 14, 3, 13, 3, 15, -1},
        },
        { // a multiple of 2147483587
            {0, 2, 8, 3, 11, -3, 13, 3},
            {1, -2, 2, 3, 6, -3, 9, 3},
            {2, -2, 5, 3, 8, 3, 10, -3},
            {3, -2, 7, 3, 8, -3, 15, -3},
            {1, -3, 4, -2, 12, -3, 14, -3},
            {0, -3, 2, -3, 5, 2, 14, -3},
            {1, -3, 3, 3, 6, -2, 15, -3},
            {5, 3, 7, -2, 11, 3, 13, 3},
            {6, 3, 7, 3, 8, 2, 15, -3},
            {1, -3, 4, 3, 9, -2, 12, 3},
            {2, 3, 4, 3, 7, -3, 10, -2},
            {1, 3, 6, -3, 8, 3, 11, 2},
            {3, 3, 5, 3, 7, 3, 12, 2},
            {4, -3, 11, -3, 13, -2, 15, -3},
            {3, -3, 5, -3, 10, -3, 14, -2},
            {1, -2, 14, 2, 6, 1, 15, -2},
        },
        { // a multiple of 2147483579
            {0, 2, 1, 3, 12, -3, 15, -3},
            {1, -2, 3, -3, 6, -3, 8, -3},
            {0, 3, 2, -2, 7, -3, 14, 3},
            {3, 2, 9, -3, 13, 3, 14, -3},
            {4, 2, 5, -3, 11, 3, 15, 3},
            {5, -2, 7, -3, 8, -3, 10, -3},
            {5, 3, 6, -2, 11, 3, 13, -3},
            {2, -3, 7, -2, 10, 3, 14, -3},
            {1, -3, 3, -3, 4, -3, 8, 2},
            {0, -3, 5, -3, 9, -2, 15, -3},
            {4, 3, 10, -2, 11, 3, 14, -3},
            {1, 3, 11, 2, 12, 3, 15, -3},
            {5, -3, 6, -3, 12, 2, 15, 3},
            {2, 3, 3, -3, 9, -3, 13, -2},
            {0, 3, 10, 3, 14, -2, 15, -3},
            {0, 1, 1, -1, 8, -3, 15, 1},
        },
        { // a multiple of 2147483563
            {0, 2, 3, 3, 7, -3, 9, -3},
            {1, -2, 5, -3, 6, 3, 15, 3},
            {2, 2, 9, 3, 11, -3, 13, -3},
            {3, 2, 7, 3, 14, 3, 15, 3},
            {1, -3, 4, -2, 5, 3, 12, 3},
            {4, 3, 5, 2, 6, 3, 8, 3},
            {2, -3, 6, -2, 8, -3, 15, 3},
            {7, -2, 11, -3, 12, -3, 13, 3},
            {8, -2, 10, 3, 13, -3, 14, 3},
            {0, -3, 2, 3, 4, 3, 9, 2},
            {0, 3, 2, 3, 10, -2, 11, 3},
            {0, 3, 4, 3, 11, -2, 13, 3},
            {1, 3, 4, -3, 9, -3, 12, 2},
            {1, -3, 3, -3, 9, -3, 13, -2},
            {2, 3, 3, 3, 6, 3, 14, -2},
            {0, 3, 15, -2, 6, -2, 14, -3},
        },
        { // a multiple of 2147483549
            {0, -2, 1, 3, 4, -3, 15, -3},
            {1, 2, 2, -3, 9, 3, 10, -3},
            {2, -2, 3, 3, 7, 3, 14, -3},
            {3, -2, 8, 3, 9, 3, 10, 3},
            {4, 2, 5, -3, 13, -3, 15, -3},
            {0, 3, 5, 2, 11, 3, 15, -3},
            {1, -3, 3, -3, 6, 2, 11, -3},
            {6, -3, 7, 2, 8, 3, 10, -3},
            {2, -3, 7, -3, 8, 2, 14, -3},
            {5, 3, 9, 2, 11, -3, 13, -3},
            {0, 3, 2, -3, 10, 2, 11, -3},
            {3, -3, 4, 3, 11, 2, 12, 3},
            {4, 3, 5, 3, 7, -3, 12, -2},
            {4, -3, 6, -3, 7, -3, 13, 2},
            {8, -3, 12, -3, 13, -3, 14, -2},
            {0, -2, 1, -2, 10, -2, 15, 1},
        },
    };

    /** Nine tellings each: the determinant of their products with one another is a multiple of a prime. */
    private static final int[][][] UPRIGHT = {
        { // 3 times 2147483629
            {3, 3, 5, 2, 7, -2, 15, 2},
            {0, -2, 7, -1, 12, 3, 15, 2},
            {0, 2, 5, 1, 11, 2, 14, -3},
            {8, -1, 13, 1, 14, 2, 15, 1},
            {2, 2, 3, -2, 4, 1, 8, 3},
            {3, 2, 6, 2, 11, -3, 12, 1},
            {0, 1, 4, -2, 9, 1, 10, 3},
            {4, -3, 5, 1, 6, -1, 13, -1},
            {1, 3, 5, -1, 9, -1, 13, 2},
        },
        { // 7 times 2147483579
            {4, 3, 7, -3, 9, -3, 14, 2},
            {0, 1, 1, -1, 12, -2, 14, -3},
            {5, -1, 7, 2, 11, 3, 13, -2},
            {2, 1, 3, -3, 6, 3, 11, -1},
            {4, -3, 5, -1, 8, 2, 10, 2},
            {0, 3, 1, 1, 4, 2, 9, -3},
            {1, 1, 2, 2, 4, 2, 10, -2},
            {7, -2, 9, -3, 11, 3, 15, 2},
            {3, 1, 4, -3, 7, -3, 10, 1},
        },
    };

    private static int wrong = 0;

    public static void main(String[] args) {
        for (int prime = 0; prime < MULTIPLES.length; prime++) {
            lastIsNew(prime);
            lastIsMade(prime, 0);
            lastIsMade(prime, 1);
            fewer(prime);
        }
        for (int i = 0; i < UPRIGHT.length; i++) {
            upright(i);
        }
        for (int factor = 1; factor <= 3; factor++) {
            blocks(factor);
        }
        System.out.println(wrong + " answers not as due");
        if (wrong != 0) {
            System.exit(1);
        }
    }

    static Pair start(String run) {
        Pair pair = new Pair(run);
        for (int p = 0; p < 8; p++) {
            pair.point(p % 2 == 0 ? 1000 : -1000, p % 3 == 0 ? -1000 : 999 - p);
        }
        return pair;
    }

    static int tell(Pair pair, int n, int[] terms) {
        int telling = pair.telling(n);
        for (int i = 0; i < terms.length; i += 2) {
            pair.term(telling, terms[i], terms[i + 1]);
        }
        return telling;
    }

    /** To one prime the sixteenth looks as if it were made of the others. */
    private static void lastIsNew(int prime) {
        int[][] rows = MULTIPLES[prime];
        Pair pair = start("last is new, prime " + prime);
        for (int i = 0; i < 16; i++) {
            tell(pair, 2000 - 250 * i, rows[i]);
        }
        check(pair.one("sort", 15) == 0);
        tell(pair, 5, new int[] {3, 1});
        tell(pair, 1000, rows[4]);
        tell(pair, 7, new int[] {0, 2, 15, -3});
        for (int t = 0; t < 19; t++) {
            pair.one("sort", t);
            pair.one("madeOf", t);
        }
        pair.one("fixed", 0);
        pair.one("fixed", 15);
        pair.one("nearest", 7);
        pair.strain();
        pair.drag(2, 0, 0, 4);
        pair.takeOff(15, true);
        pair.one("sort", 16);
        pair.one("madeOf", 17);
        pair.one("madeOf", 18);
        pair.takeOff(16, true);
        pair.drag(5, 3, 4, 0);
        pair.takeOff(15, false);
        pair.one("sort", 18);
        pair.one("question", 4);
        pair.ask(9, 1);
        pair.holds();
        pair.digest();
        wrong += pair.wrong;
    }

    /** To one prime the sixteenth is not a part of the last, and what the last sums to looks right. */
    private static void lastIsMade(int prime, int n) {
        int[][] rows = MULTIPLES[prime];
        Pair pair = start("last is made, prime " + prime);
        for (int i = 0; i < 15; i++) {
            tell(pair, 0, rows[i]);
        }
        int told = tell(pair, 1000, new int[] {15, 1});
        check(pair.one("sort", told) == 0);
        int last = tell(pair, n, rows[15]);
        check(pair.one("sort", last) == 2);
        check((pair.one("madeOf", last) & 1 << told) != 0);
        pair.one("question", n);
        for (int i = 0; i < 8; i += 2) {
            pair.ask(rows[15][i], rows[15][i + 1]);
        }
        check(pair.holds() == 0);
        pair.takeOff(told, true);
        check(pair.one("sort", last) == 0);
        check(pair.holds() == 1);
        // By hand, and let go again: what stood before is not forgotten.
        pair.drag(7, 5, 6, 15);
        pair.takeOff(last, true);
        check(pair.holds() == 2);
        pair.drag(7, 5, 6, 15);
        check(pair.holds() == 2);
        pair.takeOff(last, false);
        pair.one("madeOf", last);
        pair.digest();
        wrong += pair.wrong;
    }

    /** Free ones left, from one to all: fractions of several limbs. */
    private static void fewer(int prime) {
        int[][] rows = MULTIPLES[prime];
        for (int many = 1; many < 16; many += 2) {
            Pair pair = start(many + " tellings, prime " + prime);
            for (int i = 0; i < many; i++) {
                tell(pair, i % 2 == 0 ? 2000 : -2000, rows[i]);
            }
            for (int number = 0; number < 16; number++) {
                pair.one("nearest", number);
            }
            pair.strain();
            pair.drag(3, -1000, 1000, 0);
            pair.drag(6, 1000, -1000, 9);
            pair.digest();
            wrong += pair.wrong;
        }
    }

    /** To one prime there is nothing upright in the ninth, until a tenth comes. */
    private static void upright(int which) {
        Pair pair = start("upright " + which);
        for (int i = 0; i < 9; i++) {
            tell(pair, 100 * i - 333, UPRIGHT[which][i]);
        }
        pair.strain();
        pair.one("nearest", 4);
        tell(pair, 77, new int[] {0, 1, 2, 1, 13, 1});
        check(pair.one("tellings", 0) == 10);
        pair.strain();
        for (int number = 0; number < 16; number++) {
            pair.one("nearest", number);
        }
        pair.drag(4, 5, 6, 0);
        wrong += pair.wrong;
    }

    /** Four blocks of four by four; with all factors 3 the greatest determinant that there is, with 2 halved most. */
    private static void blocks(int factor) {
        Pair pair = start("blocks of " + factor);
        for (int i = 0; i < 16; i++) {
            int[] terms = new int[8];
            for (int j = 0; j < 4; j++) {
                terms[2 * j] = (i / 4 + 4 * j) % 16;
                terms[2 * j + 1] = Integer.bitCount(i % 4 & j) % 2 == 0 ? factor : -factor;
            }
            check(pair.one("sort", tell(pair, i % 3 == 0 ? 2000 : -1999, terms)) == 0);
            pair.strain();
        }
        pair.one("fixed", 5);
        pair.one("nearest", 6);
        pair.drag(0, 1, 1, 1);
        wrong += pair.wrong;
    }

    private static void check(boolean is) {
        if (!is) {
            wrong++;
            new Throwable("not so").printStackTrace(System.out);
        }
    }
}
