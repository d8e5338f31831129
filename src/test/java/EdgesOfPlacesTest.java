import java.math.BigInteger;

/** Promises 10 to 18: each boundary that the document names, in a case of its own. */
public final class EdgesOfPlacesTest {
    private static final int NONE = Cases.NONE, BAD = Cases.BAD, FULL = Cases.FULL;
    private static final int MOST = Cases.MOST, LEAST = Cases.LEAST;
    private static final int[] NO_NUMBER_OF_THREE_POINTS = {-1, 6, 15, 16, LEAST, MOST};
    private static final int[] NO_PLACE = {-1001, 1001, LEAST, MOST};

    /** Number k + 1 is, of the three numbers ahead of it (the last first), so many times each. */
    private static final int[][] CHAIN_TO_BASE = {{3}, {3, 3}, {3, 2, 2}, {3, 1, 3}, {3, 3, 2}, {3, 3, 1}, {3, 1, 3},
        {3, 3, 3}, {3, 1, 1}, {3, 3, 3}, {3, 3, 2}, {3, 3, 3}, {3, 3, 3}, {3, 3, 3}, {3, 3, 3}};
    private static final int[][] CHAIN_TO_ONE_LESS = {{3}, {3, 3}, {3, 3, 3}, {3, 3, 1}, {3, 2, 3}, {3, 3, 3},
        {3, 1, 3}, {3, 3, 3}, {3, 3, 3}, {3, 3, 3}, {3, 3, 2}, {3, 3, 2}, {3, 3, 2}, {3, 3, 3}, {3, 3, 3}};

    public static void main(String[] args) {
        fixed();
        fixedFractions();
        fixedRefused();
        question();
        ask();
        askRefused();
        holds();
        nearest();
        strain();
        drag();
        dragHeld();
        dragRefused();
        sign();
        limb();
        limbsAtTheBase();
        limbsBelowAtTheBase();
        Cases.end();
    }

    // ---- 10

    private static void fixed() {
        Cases.test("10 nothing is told", () -> {
            DrawnTold d = Cases.withPoints(1);
            Cases.due(d.fixed(0), 0);
        });
        Cases.test("10 the first number, not the next", () -> {
            DrawnTold d = Cases.withPoints(1);
            Cases.tell(d, 7, 0, 1);
            Cases.due("x", d.fixed(0), 1);
            Cases.fractionIs(d, "7/1");
            Cases.due("y", d.fixed(1), 0);
        });
        Cases.test("10 the last number of all", () -> {
            DrawnTold d = Cases.withPoints(8);
            Cases.tell(d, 7, 15, 1);
            Cases.due("last", d.fixed(15), 1);
            Cases.fractionIs(d, "7/1");
            Cases.due("the one ahead", d.fixed(14), 0);
        });
        Cases.test("10 not fixed: the fraction stays", () -> {
            DrawnTold d = Cases.withPoints(1);
            Cases.tell(d, -9, 0, 2);
            d.fixed(0);
            Cases.due("y", d.fixed(1), 0);
            Cases.fractionIs(d, "-9/2");
        });
        Cases.test("10 a sum alone fixes neither", () -> {
            DrawnTold d = Cases.withPoints(1);
            Cases.tell(d, 9, 0, 1, 1, 1);
            Cases.due("x", d.fixed(0), 0);
            Cases.due("y", d.fixed(1), 0);
            Cases.tell(d, 1, 0, 1, 1, -1);
            Cases.due("x by both", d.fixed(0), 1);
            Cases.fractionIs(d, "5/1");
            Cases.due("y by both", d.fixed(1), 1);
            Cases.fractionIs(d, "4/1");
        });
        Cases.test("10 fixed in one part, free in another", () -> {
            DrawnTold d = Cases.withPoints(2);
            Cases.tell(d, 9, 0, 1, 1, 1, 2, 1);
            Cases.tell(d, 4, 1, 1, 2, 1);
            Cases.due("fixed", d.fixed(0), 1);
            Cases.fractionIs(d, "5/1");
            Cases.due("free", d.fixed(1), 0);
        });
        Cases.test("10 one that quarrels fixes nothing", () -> {
            DrawnTold d = Cases.withPoints(1);
            Cases.tell(d, 4, 0, 1);
            Cases.tell(d, 5, 0, 1);
            d.fixed(0);
            Cases.fractionIs(d, "4/1");
        });
        Cases.test("10 one that is off fixes nothing", () -> {
            DrawnTold d = Cases.withPoints(1);
            Cases.tell(d, 4, 0, 1);
            Cases.tell(d, 5, 0, 1);
            d.takeOff(0, true);
            d.fixed(0);
            Cases.fractionIs(d, "5/1");
            d.takeOff(1, true);
            Cases.due("none is left", d.fixed(0), 0);
        });
        Cases.test("10 rough places do not matter", () -> {
            DrawnTold d = Cases.withPoints(1);
            Cases.tell(d, 4, 0, 1);
            d.rough(0, -1000, 1000);
            d.fixed(0);
            Cases.fractionIs(d, "4/1");
        });
    }

    private static void fixedFractions() {
        fixedIs("2 x is 4", 4, 2, "2/1");
        fixedIs("-2 x is 4", 4, -2, "-2/1");
        fixedIs("3 x is 0", 0, 3, "0/1");
        fixedIs("-3 x is 0", 0, -3, "0/1");
        fixedIs("-3 x is 2", 2, -3, "-2/3");
        fixedIs("-3 x is -2", -2, -3, "2/3");
        fixedIs("x is 2000", 2000, 1, "2000/1");
        fixedIs("-x is 2000", 2000, -1, "-2000/1");
        fixedIs("3 x is -2000", -2000, 3, "-2000/3");
        fixedIs("3 x is 1998", 1998, 3, "666/1");
    }

    private static void fixedIs(String name, int n, int times, String fraction) {
        Cases.test("10 " + name, () -> {
            DrawnTold d = Cases.withPoints(1);
            Cases.tell(d, n, 0, times);
            Cases.due(d.fixed(0), 1);
            Cases.fractionIs(d, fraction);
        });
    }

    private static void fixedRefused() {
        for (int number : NO_NUMBER_OF_THREE_POINTS) {
            Cases.refused("10 number " + number + " of 3 points", EdgesOfTellingsTest::some, d -> d.fixed(number),
                BAD);
        }
        Cases.refused("10 number 16 of 8 points", Cases::fill, d -> d.fixed(16), BAD);
        Cases.refused("10 not fixed: nothing changes", EdgesOfTellingsTest::some, d -> d.fixed(1), 0);
    }

    // ---- 11

    private static void question() {
        int[] edges = {-2000, 2000};
        for (int n : edges) {
            Cases.test("11 n " + n, () -> {
                DrawnTold d = Cases.withPoints(1);
                Cases.tell(d, n, 0, 1);
                Cases.question(d, n, 0, 1);
                Cases.due(d.holds(), 1);
            });
        }
        Cases.test("11 without points", () -> Cases.due(new DrawnTold().question(0), 1));
        Cases.test("11 anew, without the terms it had", () -> {
            DrawnTold d = Cases.withPoints(2);
            Cases.question(d, 3, 0, 1, 1, 1, 2, 1, 3, 1);
            Cases.due("at times", d.holds(), 2);
            Cases.due("anew", d.question(0), 1);
            Cases.due("0 is 0", d.holds(), 1);
            Cases.due("a number it had", d.ask(3, 1), 1);
        });
        Cases.test("11 the same n again: the terms go all the same", () -> {
            DrawnTold d = Cases.withPoints(1);
            Cases.question(d, 3, 0, 1);
            Cases.due("again", d.question(3), 1);
            Cases.due("0 is 3", d.holds(), 0);
        });
        Cases.test("11 it is no telling", () -> {
            DrawnTold d = Cases.withPoints(1);
            Cases.question(d, 3, 0, 1);
            Cases.due("tellings", d.count(1), 0);
            Cases.due("fixed", d.fixed(0), 0);
        });
        int[] beyond = {-2001, 2001, LEAST, MOST};
        for (int n : beyond) {
            Cases.refused("11 n " + n, EdgesOfTellingsTest::some, d -> d.question(n), BAD);
            Cases.refused("11 n " + n + " when it has four terms", Cases::fill, d -> d.question(n), BAD);
        }
    }

    // ---- 12

    private static void ask() {
        int[] all = {-3, -2, -1, 1, 2, 3};
        for (int times : all) {
            Cases.test("12 times " + times, () -> {
                DrawnTold d = Cases.withPoints(1);
                Cases.tell(d, 1, 0, 1);
                d.question(times);
                Cases.due("ask", d.ask(0, times), 1);
                Cases.due("holds", d.holds(), 1);
            });
        }
        Cases.test("12 one to four", () -> {
            DrawnTold d = Cases.withPoints(2);
            for (int i = 0; i < 4; i++) {
                Cases.due("ask " + i, d.ask(i, 1), i + 1);
            }
        });
        Cases.test("12 of a question that was never told", () -> {
            DrawnTold d = Cases.withPoints(1);
            Cases.tell(d, 0, 1, 1);
            Cases.due("ask", d.ask(1, 3), 1);
            Cases.due("3 y is 0", d.holds(), 1);
        });
        Cases.test("12 the greatest number of all", () -> {
            DrawnTold d = Cases.withPoints(8);
            Cases.tell(d, 2, 15, 1);
            d.question(6);
            Cases.due("ask", d.ask(15, 3), 1);
            Cases.due("holds", d.holds(), 1);
        });
        Cases.test("12 a number is there as soon as its point is", () -> {
            DrawnTold d = Cases.withPoints(1);
            Cases.due("ahead", d.ask(2, 1), BAD);
            d.point(0, 0);
            Cases.due("behind", d.ask(2, 1), 1);
        });
        Cases.test("12 a number that a telling has", () -> {
            DrawnTold d = Cases.withPoints(1);
            Cases.tell(d, 2, 0, 1);
            Cases.due(d.ask(0, 1), 1);
        });
    }

    /** When all is full the question has the numbers 0, 1, 2 and 3. */
    private static void askRefused() {
        for (int number : NO_NUMBER_OF_THREE_POINTS) {
            Cases.refused("12 number " + number + " of 3 points", EdgesOfTellingsTest::some, d -> d.ask(number, 1),
                BAD);
        }
        int[] noTimes = {0, -4, 4, LEAST, MOST};
        for (int times : noTimes) {
            Cases.refused("12 times " + times, EdgesOfTellingsTest::some, d -> d.ask(0, times), BAD);
            Cases.refused("12 times " + times + ", ahead of full", Cases::fill, d -> d.ask(4, times), BAD);
        }
        Cases.refused("12 a number that it has", EdgesOfTellingsTest::some, d -> d.ask(1, 1), BAD);
        Cases.refused("12 a number that it has as its second", EdgesOfTellingsTest::some, d -> d.ask(3, 1), BAD);
        Cases.refused("12 a fifth", Cases::fill, d -> d.ask(4, 1), FULL);
        Cases.refused("12 a fifth at the edge", Cases::fill, d -> d.ask(15, -3), FULL);
        for (int number = 0; number < 4; number++) {
            int has = number;
            Cases.refused("12 has " + has + ", ahead of full", Cases::fill, d -> d.ask(has, 1), BAD);
        }
        Cases.refused("12 no such number, ahead of full", Cases::fill, d -> d.ask(16, 1), BAD);
        Cases.refused("12 number below 0, ahead of full", Cases::fill, d -> d.ask(-1, 1), BAD);
    }

    // ---- 13

    private static void holds() {
        Cases.test("13 0 is 0 always", () -> holdsWithoutTerms(0, 1));
        int[] others = {1, -1, 2000, -2000};
        for (int n : others) {
            Cases.test("13 0 is " + n + " never", () -> holdsWithoutTerms(n, 0));
        }
        Cases.test("13 nothing is told: at times", () -> {
            DrawnTold d = Cases.withPoints(1);
            Cases.question(d, 0, 0, 1);
            Cases.due(d.holds(), 2);
        });
        Cases.test("13 rough places do not matter", () -> {
            DrawnTold d = Cases.withPoints(1);
            Cases.question(d, 0, 0, 1);
            d.rough(0, 0, 0);
            Cases.due(d.holds(), 2);
        });
        Cases.test("13 1 more or less than always is never", () -> {
            DrawnTold d = Cases.withPoints(1);
            Cases.tell(d, 5, 0, 1, 1, 2);
            int[] answers = {0, 1, 0};
            for (int n = 4; n <= 6; n++) {
                Cases.question(d, n, 0, 1, 1, 2);
                Cases.due("holds " + n, d.holds(), answers[n - 4]);
            }
        });
        Cases.test("13 by fractions", () -> {
            DrawnTold d = Cases.withPoints(1);
            Cases.tell(d, 1, 0, 3);
            Cases.question(d, 0, 0, 1);
            Cases.due("x is 0", d.holds(), 0);
            Cases.question(d, -1, 0, -3);
            Cases.due("-3 x is -1", d.holds(), 1);
        });
        Cases.test("13 where all is fixed, never at times", () -> {
            DrawnTold d = Cases.withPoints(8);
            for (int i = 0; i < 16; i++) {
                Cases.tell(d, 10 * i, i, 2);
            }
            Cases.question(d, 5 * (1 + 2 + 3 + 15), 1, 1, 2, 1, 3, 1, 15, 1);
            Cases.due("always", d.holds(), 1);
            Cases.question(d, 5 * (1 + 2 + 3 + 15) + 1, 1, 1, 2, 1, 3, 1, 15, 1);
            Cases.due("never", d.holds(), 0);
        });
        Cases.test("13 who quarrels or is off is not asked", () -> {
            DrawnTold d = Cases.withPoints(1);
            Cases.tell(d, 4, 0, 1);
            Cases.tell(d, 5, 0, 1);
            Cases.question(d, 5, 0, 1);
            Cases.due("quarrels", d.holds(), 0);
            d.takeOff(0, true);
            Cases.due("no longer", d.holds(), 1);
            d.takeOff(1, true);
            Cases.due("nobody", d.holds(), 2);
        });
        Cases.test("13 a term more is asked at once", () -> {
            DrawnTold d = Cases.withPoints(1);
            Cases.tell(d, 4, 0, 1);
            Cases.question(d, 4, 0, 1);
            Cases.due("x", d.holds(), 1);
            d.ask(1, 1);
            Cases.due("x and y", d.holds(), 2);
        });
    }

    private static void holdsWithoutTerms(int n, int answer) {
        DrawnTold d = new DrawnTold();
        d.question(n);
        Cases.due("without points", d.holds(), answer);
        d.point(0, 0);
        Cases.tell(d, n, 0, 1);
        Cases.due("with a telling", d.holds(), answer);
    }

    // ---- 14

    private static void nearest() {
        Cases.test("14 nothing is told: the rough ones", () -> {
            DrawnTold d = new DrawnTold();
            d.point(-1000, 1000);
            Cases.due("x", d.nearest(0), 1);
            Cases.fractionIs(d, "-1000/1");
            Cases.due("y", d.nearest(1), 1);
            Cases.fractionIs(d, "1000/1");
        });
        Cases.test("14 the rough one is 0", () -> {
            DrawnTold d = new DrawnTold();
            d.point(0, 5);
            d.nearest(1);
            d.nearest(0);
            Cases.fractionIs(d, "0/1");
        });
        Cases.test("14 0 is 0 by 1, be 9 to the 16 below it at first", () -> {
            DrawnTold d = Cases.withPoints(8);
            for (int i = 0; i < 16; i++) {
                Cases.tell(d, 0, i, 3);
            }
            for (int i = 0; i < 16; i++) {
                Cases.due("number " + i, d.nearest(i), 1);
                Cases.fractionIs(d, "0/1");
            }
        });
        Cases.test("14 the last number of all", () -> {
            DrawnTold d = Cases.withPoints(8);
            Cases.tell(d, 8, 14, 1, 15, 1);
            Cases.due("last", d.nearest(15), 1);
            // 70 and 7 are 69 too many, half of it each
            Cases.fractionIs(d, "-55/2");
        });
        Cases.test("14 told where it lies", () -> {
            DrawnTold d = Cases.withPoints(2);
            Cases.tell(d, 11, 2, 1, 3, 1);
            d.nearest(2);
            Cases.fractionIs(d, "10/1");
        });
        Cases.test("14 all is fixed", () -> {
            DrawnTold d = Cases.withPoints(1);
            Cases.tell(d, 7, 0, 3);
            Cases.tell(d, -7, 1, 2);
            d.nearest(0);
            Cases.fractionIs(d, "7/3");
            d.nearest(1);
            Cases.fractionIs(d, "-7/2");
        });
        Cases.test("14 who follows or quarrels or is off does not pull", () -> {
            DrawnTold d = Cases.withPoints(1);
            Cases.tell(d, 6, 0, 1, 1, 1);
            Cases.tell(d, 12, 0, 2, 1, 2);
            Cases.tell(d, 100, 0, 2, 1, 2);
            Cases.tell(d, 100, 0, 1);
            d.takeOff(3, true);
            d.nearest(0);
            Cases.fractionIs(d, "3/1");
        });
        for (int number : NO_NUMBER_OF_THREE_POINTS) {
            Cases.refused("14 number " + number + " of 3 points", EdgesOfTellingsTest::some, d -> d.nearest(number),
                BAD);
        }
        Cases.refused("14 number 16 of 8 points", Cases::fill, d -> d.nearest(16), BAD);
    }

    // ---- 15

    private static void strain() {
        Cases.test("15 points without tellings", () -> strainIs(Cases.withPoints(8), "0/1"));
        Cases.test("15 a strain that was is gone", () -> {
            DrawnTold d = Cases.withPoints(1);
            Cases.tell(d, 4, 0, 1);
            strainIs(d, "16/1");
            d.takeOff(0, true);
            strainIs(d, "0/1");
        });
        Cases.test("15 told where it lies", () -> {
            DrawnTold d = Cases.withPoints(2);
            Cases.tell(d, 10, 2, 1);
            strainIs(d, "0/1");
        });
        Cases.test("15 in lowest terms", () -> {
            DrawnTold d = Cases.withPoints(1);
            Cases.tell(d, 2, 0, 1, 1, 1);
            strainIs(d, "2/1");
            Cases.tell(d, 1, 0, 3);
            // 1 by 3 and 5 by 3
            strainIs(d, "26/9");
        });
        Cases.test("15 who quarrels does not strain", () -> {
            DrawnTold d = Cases.withPoints(1);
            d.telling(5);
            Cases.tell(d, 3, 1, 1);
            Cases.tell(d, 4, 1, 1);
            strainIs(d, "9/1");
        });
        Cases.test("15 all as far as can be", () -> {
            DrawnTold d = new DrawnTold();
            for (int p = 0; p < 8; p++) {
                d.point(1000, -1000);
            }
            for (int i = 0; i < 16; i++) {
                Cases.tell(d, i % 2 == 0 ? -2000 : 2000, i, 1);
            }
            strainIs(d, 16L * 3000 * 3000 + "/1");
        });
        Cases.test("15 of three limbs", () -> {
            DrawnTold d = upToBase();
            BigInteger sum = BigInteger.ZERO;
            for (int i = 0; i < 16; i++) {
                BigInteger way = BigInteger.valueOf(powers(i) - (i % 2 == 0 ? 5L * i : i / 2));
                sum = sum.add(way.multiply(way));
            }
            strainIs(d, sum + "/1");
            Cases.due("limbs", d.sign(1), 3);
        });
    }

    private static void strainIs(DrawnTold d, String fraction) {
        Cases.due("strain", d.strain(), 1);
        Cases.fractionIs(d, fraction);
    }

    // ---- 16

    private static void drag() {
        int[] edges = {-1000, 1000};
        for (int value : edges) {
            Cases.test("16 x " + value, () -> dragIs(Cases.withPoints(1), 0, value, 5, 0, value + "/1"));
            Cases.test("16 y " + value, () -> dragIs(Cases.withPoints(1), 0, 5, value, 1, value + "/1"));
        }
        for (int p = 0; p < 8; p++) {
            int point = p;
            Cases.test("16 point " + point + " of 8, x", () -> {
                dragIs(Cases.withPoints(8), point, -41, 42, 2 * point, "-41/1");
            });
            Cases.test("16 point " + point + " of 8, y", () -> {
                dragIs(Cases.withPoints(8), point, -41, 42, 2 * point + 1, "42/1");
            });
        }
        Cases.test("16 the last point, the first number", () -> {
            DrawnTold d = Cases.withPoints(8);
            Cases.tell(d, 3, 0, 1, 15, -2);
            dragIs(d, 7, 1, 2, 0, "7/1");
        });
        Cases.test("16 another point stays", () -> dragIs(Cases.withPoints(2), 0, 500, 500, 2, "10/1"));
        Cases.test("16 to where it lies", () -> dragIs(Cases.withPoints(2), 1, 10, 1, 2, "10/1"));
        Cases.test("16 what is let go is as it was", () -> {
            DrawnTold d = Cases.withPoints(2);
            Cases.tell(d, 10, 2, 1, 0, -1);
            long before = d.digest();
            d.drag(0, 50, 60, 2);
            Cases.fractionIs(d, "60/1");
            d.nearest(0);
            Cases.fractionIs(d, "0/1");
            Cases.due("digest", d.digest(), before);
            Cases.due("free", d.tellings(3), 3);
        });
        Cases.test("16 behind twenty tellings", () -> {
            DrawnTold d = Cases.withPoints(2);
            for (int t = 0; t < 19; t++) {
                d.telling(0);
            }
            Cases.tell(d, 10, 2, 1, 0, -1);
            dragIs(d, 0, 50, 60, 2, "60/1");
            Cases.due("tellings", d.count(1), 20);
            Cases.due("the last", d.sort(19), 0);
        });
    }

    private static void dragHeld() {
        Cases.test("16 both are told otherwise", () -> {
            DrawnTold d = Cases.withPoints(1);
            Cases.tell(d, 3, 0, 1);
            Cases.tell(d, 4, 1, 1);
            dragIs(d, 0, 50, 60, 0, "3/1");
            dragIs(d, 0, 50, 60, 1, "4/1");
        });
        Cases.test("16 x is told otherwise, y goes", () -> {
            DrawnTold d = Cases.withPoints(1);
            Cases.tell(d, 3, 0, 1);
            dragIs(d, 0, 50, 60, 0, "3/1");
            dragIs(d, 0, 50, 60, 1, "60/1");
        });
        Cases.test("16 y is told otherwise, x goes", () -> {
            DrawnTold d = Cases.withPoints(1);
            Cases.tell(d, 3, 1, 1);
            dragIs(d, 0, 50, 60, 0, "50/1");
            dragIs(d, 0, 50, 60, 1, "3/1");
        });
        Cases.test("16 x first, then y has no choice", () -> {
            DrawnTold d = Cases.withPoints(1);
            Cases.tell(d, 0, 0, 1, 1, -2);
            dragIs(d, 0, 50, 60, 0, "50/1");
            dragIs(d, 0, 50, 60, 1, "25/1");
        });
        Cases.test("16 x first, then y follows", () -> {
            DrawnTold d = Cases.withPoints(1);
            Cases.tell(d, 0, 0, 1, 1, -2);
            dragIs(d, 0, 50, 25, 1, "25/1");
        });
        Cases.test("16 as it is told", () -> {
            DrawnTold d = Cases.withPoints(1);
            Cases.tell(d, 3, 0, 1);
            Cases.tell(d, 4, 1, 1);
            dragIs(d, 0, 3, 4, 1, "4/1");
        });
        Cases.test("16 nothing is free", () -> {
            DrawnTold d = Cases.withPoints(8);
            for (int i = 0; i < 16; i++) {
                Cases.tell(d, i, i, 3);
            }
            dragIs(d, 7, 900, 900, 14, "14/3");
            dragIs(d, 7, 900, 900, 15, "5/1");
            Cases.due("new", d.tellings(0), 16);
        });
        Cases.test("16 one free: x goes, y hangs on it", () -> {
            DrawnTold d = Cases.withPoints(8);
            for (int i = 0; i < 15; i++) {
                Cases.tell(d, 0, i, 1, i + 1, -1);
            }
            dragIs(d, 3, 9, 8, 15, "9/1");
            Cases.due("new", d.tellings(0), 15);
            Cases.due("still free", d.tellings(3), 1);
            Cases.due("not fixed", d.fixed(15), 0);
        });
        Cases.test("16 one that is off holds nothing", () -> {
            DrawnTold d = Cases.withPoints(1);
            Cases.tell(d, 3, 0, 1);
            d.takeOff(0, true);
            dragIs(d, 0, 50, 60, 0, "50/1");
        });
    }

    private static void dragIs(DrawnTold d, int point, int x, int y, int number, String fraction) {
        Cases.due("drag", d.drag(point, x, y, number), 1);
        Cases.fractionIs(d, fraction);
    }

    private static void dragRefused() {
        int[] noPoint = {-1, 3, 7, 8, LEAST, MOST};
        for (int point : noPoint) {
            Cases.refused("16 point " + point + " of 3", EdgesOfTellingsTest::some, d -> d.drag(point, 1, 1, 1), BAD);
        }
        for (int value : NO_PLACE) {
            Cases.refused("16 x " + value, EdgesOfTellingsTest::some, d -> d.drag(1, value, 1, 1), BAD);
            Cases.refused("16 y " + value, EdgesOfTellingsTest::some, d -> d.drag(1, 1, value, 1), BAD);
        }
        for (int number : NO_NUMBER_OF_THREE_POINTS) {
            Cases.refused("16 number " + number + " of 3 points", EdgesOfTellingsTest::some,
                d -> d.drag(1, 1, 1, number), BAD);
        }
        Cases.refused("16 point 8 of 8", Cases::fill, d -> d.drag(8, 1, 1, 1), BAD);
        Cases.refused("16 number 16 of 8 points", Cases::fill, d -> d.drag(1, 1, 1, 16), BAD);
    }

    // ---- 17

    private static DrawnTold withFraction(int n, int times) {
        DrawnTold d = Cases.withPoints(1);
        Cases.tell(d, n, 0, times);
        Cases.due("fixed", d.fixed(0), 1);
        return d;
    }

    private static void sign() {
        Cases.test("17 below 0", () -> Cases.due(withFraction(-1, 3).sign(0), -1));
        Cases.test("17 below 0 by its factor", () -> Cases.due(withFraction(1, -3).sign(0), -1));
        Cases.test("17 above 0", () -> Cases.due(withFraction(1, 3).sign(0), 1));
        Cases.test("17 0", () -> Cases.due(withFraction(0, -3).sign(0), 0));
        Cases.test("17 0 has no limb above", () -> Cases.due(withFraction(0, 3).sign(1), 0));
        Cases.test("17 0 has one limb below", () -> Cases.due(withFraction(0, 3).sign(2), 1));
        Cases.test("17 one limb above", () -> Cases.due(withFraction(-1, 3).sign(1), 1));
        Cases.test("17 one limb below", () -> Cases.due(withFraction(-1, 3).sign(2), 1));
        int[] noWhat = {-1, 3, -10, LEAST, MOST};
        for (int what : noWhat) {
            Cases.refused("17 what " + what, EdgesOfTellingsTest::some, d -> d.sign(what), -10);
        }
    }

    // ---- 18

    private static void limb() {
        Cases.test("18 of 0 there is none above", () -> Cases.due(withFraction(0, 3).limb(0, 0), NONE));
        Cases.test("18 of 0 there is 1 below", () -> Cases.due(withFraction(0, 3).limb(1, 0), 1));
        Cases.test("18 above, without the sign", () -> Cases.due(withFraction(-2000, 3).limb(0, 0), 2000));
        Cases.test("18 below", () -> Cases.due(withFraction(-2000, 3).limb(1, 0), 3));
        int[] beyond = {1, 2, 4, 5, 6, MOST};
        for (int i : beyond) {
            Cases.refused("18 no limb " + i + " above", EdgesOfTellingsTest::some, d -> d.limb(0, i), NONE);
            Cases.refused("18 no limb " + i + " below", EdgesOfTellingsTest::some, d -> d.limb(1, i), NONE);
        }
        int[] below = {-1, LEAST};
        for (int i : below) {
            Cases.refused("18 limb " + i + " above", EdgesOfTellingsTest::some, d -> d.limb(0, i), BAD);
            Cases.refused("18 limb " + i + " below", EdgesOfTellingsTest::some, d -> d.limb(1, i), BAD);
        }
        int[] noWhich = {-1, 2, LEAST, MOST};
        for (int which : noWhich) {
            Cases.refused("18 which " + which, EdgesOfTellingsTest::some, d -> d.limb(which, 0), BAD);
            Cases.refused("18 which " + which + ", ahead of none", EdgesOfTellingsTest::some, d -> d.limb(which, 9),
                BAD);
        }
    }

    /** Number i is 1024 times 8 for each two ahead, 2 for one more: number 14 is 2^31. */
    private static long powers(int i) {
        return 1024L << (3 * (i / 2) + i % 2);
    }

    private static DrawnTold upToBase() {
        DrawnTold d = Cases.withPoints(8);
        Cases.tell(d, 1024, 0, 1);
        for (int i = 1; i < 16; i += 2) {
            Cases.tell(d, 0, i, 1, i - 1, -2);
            if (i < 15) {
                Cases.tell(d, 0, i + 1, 1, i, -3, i - 1, -2);
            }
        }
        return d;
    }

    private static void limbsAtTheBase() {
        Cases.test("18 the powers of 2 are told", () -> {
            DrawnTold d = upToBase();
            for (int i = 0; i < 16; i++) {
                d.fixed(i);
                Cases.fractionIs(d, powers(i) + "/1");
            }
        });
        Cases.test("18 the base itself has two limbs", () -> {
            DrawnTold d = atTheBase(0);
            Cases.due("limbs", d.sign(1), 2);
            Cases.due("low", d.limb(0, 0), 0);
            Cases.due("high", d.limb(0, 1), 1);
            Cases.due("no third", d.limb(0, 2), NONE);
        });
        Cases.test("18 1 less than the base has one limb", () -> {
            DrawnTold d = atTheBase(-1);
            Cases.due("limbs", d.sign(1), 1);
            Cases.due("low", d.limb(0, 0), 1073741823);
            Cases.due("no second", d.limb(0, 1), NONE);
        });
        Cases.test("18 1 more than the base", () -> {
            DrawnTold d = atTheBase(1);
            Cases.due("limbs", d.sign(1), 2);
            Cases.due("low", d.limb(0, 0), 1);
            Cases.due("high", d.limb(0, 1), 1);
        });
    }

    /** The fraction is the base, 2^30, and so many. */
    private static DrawnTold atTheBase(int more) {
        DrawnTold d = upToBase();
        d.takeOff(15, true);
        d.takeOff(14, true);
        // number 13 is 2^29
        Cases.tell(d, more, 15, 1, 13, -2);
        Cases.due("fixed", d.fixed(15), 1);
        Cases.due("sign", d.sign(0), 1);
        return d;
    }

    private static void limbsBelowAtTheBase() {
        Cases.test("18 the base below has two limbs", () -> {
            DrawnTold d = chain(CHAIN_TO_BASE, 15, 3, 14, -2, 6, 2, 0, 3);
            Cases.fractionIs(d, "1/1073741824");
            Cases.due("limbs", d.sign(2), 2);
            Cases.due("low", d.limb(1, 0), 0);
            Cases.due("high", d.limb(1, 1), 1);
            Cases.due("no third", d.limb(1, 2), NONE);
        });
        Cases.test("18 1 less than the base below has one limb", () -> {
            DrawnTold d = chain(CHAIN_TO_ONE_LESS, 15, 2, 13, -1, 11, -2, 5, -3);
            Cases.fractionIs(d, "1/1073741823");
            Cases.due("limbs", d.sign(2), 1);
            Cases.due("low", d.limb(1, 0), 1073741823);
            Cases.due("no second", d.limb(1, 1), NONE);
        });
    }

    /** All numbers hang on number 0, and the last telling makes it the fraction. */
    private static DrawnTold chain(int[][] chain, int... last) {
        DrawnTold d = Cases.withPoints(8);
        for (int k = 0; k < chain.length; k++) {
            int[] terms = new int[2 + 2 * chain[k].length];
            terms[0] = k + 1;
            terms[1] = 1;
            for (int i = 0; i < chain[k].length; i++) {
                terms[2 + 2 * i] = k - i;
                terms[3 + 2 * i] = -chain[k][i];
            }
            Cases.tell(d, 0, terms);
        }
        Cases.tell(d, 1, last);
        Cases.due("fixed", d.fixed(0), 1);
        return d;
    }
}
