import java.util.function.ToLongFunction;

/** Promises 1 to 9: each boundary that the document names, in a case of its own. */
public final class EdgesOfTellingsTest {
    private static final int NONE = Cases.NONE, BAD = Cases.BAD, NO = Cases.NO, FULL = Cases.FULL;
    private static final int MOST = Cases.MOST, LEAST = Cases.LEAST;

    public static void main(String[] args) {
        newObject();
        newObjectHasNothing();
        pointTaken();
        pointRefused();
        roughTaken();
        roughRefused();
        tellingTaken();
        tellingRefused();
        termTaken();
        termRefused();
        termRefusedWhenFull();
        takeOffTaken();
        takeOffRefused();
        sortWithoutTerms();
        sortAhead();
        sortBehindACall();
        sortEdges();
        madeOf();
        madeOfRefused();
        tellings();
        Cases.end();
    }

    // ---- 1

    private static void newObject() {
        Cases.test("1 nothing is counted", () -> {
            for (int what = 0; what < 4; what++) {
                Cases.due("count " + what, new DrawnTold().count(what), 0);
            }
        });
        Cases.test("1 no telling of any sort, nothing free", () -> {
            for (int what = 0; what < 4; what++) {
                Cases.due("tellings " + what, new DrawnTold().tellings(what), 0);
            }
        });
        Cases.test("1 no bar of any sort, nothing loose", () -> {
            for (int what = 0; what < 3; what++) {
                Cases.due("bars " + what, new DrawnTold().bars(what), 0);
            }
        });
        Cases.test("1 the fraction is 0 by 1", () -> {
            DrawnTold d = new DrawnTold();
            Cases.due("sign", d.sign(0), 0);
            Cases.due("limbs above", d.sign(1), 0);
            Cases.due("limbs below", d.sign(2), 1);
            Cases.due("limb above", d.limb(0, 0), NONE);
            Cases.due("limb below", d.limb(1, 0), 1);
            Cases.due("no second limb below", d.limb(1, 1), NONE);
        });
        Cases.test("1 the question is 0 is 0", () -> Cases.due(new DrawnTold().holds(), 1));
        Cases.test("1 the strain of nothing is 0", () -> {
            DrawnTold d = new DrawnTold();
            Cases.due(d.strain(), 1);
            Cases.fractionIs(d, "0/1");
        });
        Cases.test("1 one object knows nothing of another", () -> {
            Cases.fill(new DrawnTold());
            DrawnTold d = new DrawnTold();
            Cases.due("points", d.count(0), 0);
            Cases.due("digest", d.digest(), EdgesOfBarsTest.hash(0, 0, 0, 0, 0, 0, 0, 0, 0, 1, 1));
        });
    }

    private static void newObjectHasNothing() {
        Cases.test("1 no point to be put elsewhere", () -> Cases.due(new DrawnTold().rough(0, 0, 0), BAD));
        Cases.test("1 no telling to get a term", () -> Cases.due(new DrawnTold().term(0, 0, 1), BAD));
        Cases.test("1 no telling to take off", () -> Cases.due(new DrawnTold().takeOff(0, true), BAD));
        Cases.test("1 no telling to put back: bad, not no", () -> Cases.due(new DrawnTold().takeOff(0, false), BAD));
        Cases.test("1 no sort", () -> Cases.due(new DrawnTold().sort(0), BAD));
        Cases.test("1 nothing made of others", () -> Cases.due(new DrawnTold().madeOf(0), BAD));
        Cases.test("1 no number fixed", () -> Cases.due(new DrawnTold().fixed(0), BAD));
        Cases.test("1 no number to ask for", () -> Cases.due(new DrawnTold().ask(0, 1), BAD));
        Cases.test("1 no number nearest", () -> Cases.due(new DrawnTold().nearest(0), BAD));
        Cases.test("1 no point to drag", () -> Cases.due(new DrawnTold().drag(0, 0, 0, 0), BAD));
        Cases.test("1 no points for a bar", () -> Cases.due(new DrawnTold().bar(0, 1), BAD));
        Cases.test("1 no bar of a sort", () -> Cases.due(new DrawnTold().sortOf(0), BAD));
        Cases.test("1 no bar with a round", () -> Cases.due(new DrawnTold().round(0), BAD));
        Cases.test("1 no points kept", () -> Cases.due(new DrawnTold().kept(0, 1), BAD));
        Cases.test("1 no piece", () -> Cases.due(new DrawnTold().piece(0, 1), BAD));
        Cases.test("1 no fixes", () -> Cases.due(new DrawnTold().fixes(NONE), 0));
        Cases.test("1 no first fix", () -> Cases.due(new DrawnTold().fixes(0), -5));
        Cases.test("1 no order", () -> Cases.due(new DrawnTold().order(0), NONE));
        Cases.test("1 nothing whole", () -> Cases.due(new DrawnTold().whole(), 0));
    }

    // ---- 2

    private static void pointTaken() {
        Cases.test("2 the first is 0", () -> Cases.due(new DrawnTold().point(3, 4), 0));
        Cases.test("2 the least x", () -> pointLiesAt(-1000, 0));
        Cases.test("2 the greatest x", () -> pointLiesAt(1000, 0));
        Cases.test("2 the least y", () -> pointLiesAt(0, -1000));
        Cases.test("2 the greatest y", () -> pointLiesAt(0, 1000));
        Cases.test("2 two at the same place", () -> {
            DrawnTold d = new DrawnTold();
            Cases.due("first", d.point(5, 5), 0);
            Cases.due("second", d.point(5, 5), 1);
        });
        Cases.test("2 the eighth is 7", () -> {
            DrawnTold d = Cases.withPoints(7);
            Cases.due("the eighth", d.point(-1000, 1000), 7);
            Cases.due("count", d.count(0), 8);
            Cases.due("nearest", d.nearest(15), 1);
            Cases.fractionIs(d, "1000/1");
        });
    }

    private static void pointLiesAt(int x, int y) {
        DrawnTold d = new DrawnTold();
        Cases.due("point", d.point(x, y), 0);
        d.nearest(0);
        Cases.fractionIs(d, x + "/1");
        d.nearest(1);
        Cases.fractionIs(d, y + "/1");
    }

    private static void pointRefused() {
        int[] beyond = {-1001, 1001, LEAST, MOST};
        for (int value : beyond) {
            Cases.refused("2 x " + value, EdgesOfTellingsTest::some, d -> d.point(value, 0), BAD);
            Cases.refused("2 y " + value, EdgesOfTellingsTest::some, d -> d.point(0, value), BAD);
            Cases.refused("2 x " + value + " ahead of full", Cases::fill, d -> d.point(value, 0), BAD);
            Cases.refused("2 y " + value + " ahead of full", Cases::fill, d -> d.point(0, value), BAD);
        }
        Cases.refused("2 a ninth", Cases::fill, d -> d.point(0, 0), FULL);
        Cases.refused("2 a ninth at the edge", Cases::fill, d -> d.point(-1000, 1000), FULL);
        Cases.test("2 full again and again", () -> {
            DrawnTold d = Cases.withPoints(8);
            for (int i = 0; i < 3; i++) {
                Cases.due("one more", d.point(1, 1), FULL);
            }
            Cases.due("count", d.count(0), 8);
        });
        Cases.test("2 a refused one takes no number", () -> {
            DrawnTold d = Cases.withPoints(1);
            d.point(1001, 0);
            Cases.due("next", d.point(0, 0), 1);
        });
    }

    /** A bit of everything, with room left. */
    static void some(DrawnTold d) {
        Cases.addPoints(d, 3);
        Cases.tell(d, 12, 0, 1, 2, -1);
        Cases.tell(d, 7, 4, 2);
        Cases.tell(d, 24, 0, 2, 2, -2);
        Cases.tell(d, 3, 4, 1);
        Cases.tell(d, 9, 5, 3);
        d.takeOff(4, true);
        Cases.question(d, 4, 1, 1, 3, -2);
        Cases.addBars(d, 0, 1, 2, 1);
        d.nearest(4);
    }

    // ---- 3

    private static void roughTaken() {
        int[] edges = {-1000, 1000};
        for (int value : edges) {
            Cases.test("3 x " + value, () -> roughLiesAt(value, 1));
            Cases.test("3 y " + value, () -> roughLiesAt(1, value));
        }
        Cases.test("3 the first point", () -> {
            DrawnTold d = Cases.withPoints(2);
            Cases.due(d.rough(0, 77, 78), 1);
            d.nearest(0);
            Cases.fractionIs(d, "77/1");
            d.nearest(2);
            Cases.fractionIs(d, "10/1");
        });
        Cases.test("3 the eighth point", () -> {
            DrawnTold d = Cases.withPoints(8);
            Cases.due(d.rough(7, 77, 78), 1);
            d.nearest(15);
            Cases.fractionIs(d, "78/1");
            d.nearest(13);
            Cases.fractionIs(d, "6/1");
        });
        Cases.test("3 where it lies already", () -> {
            DrawnTold d = Cases.withPoints(2);
            long before = d.digest();
            Cases.due("rough", d.rough(1, 10, 1), 1);
            Cases.due("digest", d.digest(), before);
        });
        Cases.test("3 when all is full", () -> {
            DrawnTold d = new DrawnTold();
            Cases.fill(d);
            Cases.due(d.rough(7, 1, 2), 1);
        });
        Cases.test("3 the fraction stays as it was", () -> {
            DrawnTold d = Cases.withPoints(2);
            d.nearest(2);
            d.rough(1, 500, 500);
            Cases.fractionIs(d, "10/1");
        });
    }

    private static void roughLiesAt(int x, int y) {
        DrawnTold d = Cases.withPoints(2);
        Cases.due("rough", d.rough(1, x, y), 1);
        d.nearest(2);
        Cases.fractionIs(d, x + "/1");
        d.nearest(3);
        Cases.fractionIs(d, y + "/1");
    }

    private static void roughRefused() {
        int[] noPoint = {-1, 3, 7, 8, LEAST, MOST};
        for (int point : noPoint) {
            Cases.refused("3 point " + point + " of 3", EdgesOfTellingsTest::some, d -> d.rough(point, 1, 1), BAD);
        }
        int[] beyond = {-1001, 1001, LEAST, MOST};
        for (int value : beyond) {
            Cases.refused("3 x " + value, EdgesOfTellingsTest::some, d -> d.rough(1, value, 5), BAD);
            Cases.refused("3 y " + value, EdgesOfTellingsTest::some, d -> d.rough(1, 5, value), BAD);
        }
        Cases.refused("3 point 8 of 8", Cases::fill, d -> d.rough(8, 1, 1), BAD);
    }

    // ---- 4

    private static void tellingTaken() {
        Cases.test("4 the first is 0", () -> Cases.due(new DrawnTold().telling(5), 0));
        Cases.test("4 without points too", () -> {
            DrawnTold d = new DrawnTold();
            d.telling(5);
            Cases.due(d.count(1), 1);
        });
        int[] edges = {-2000, 2000};
        for (int n : edges) {
            Cases.test("4 n " + n, () -> {
                DrawnTold d = Cases.withPoints(1);
                Cases.tell(d, n, 0, 1);
                Cases.due("fixed", d.fixed(0), 1);
                Cases.fractionIs(d, n + "/1");
            });
        }
        Cases.test("4 the twentieth is 19", () -> {
            DrawnTold d = withTellings(19);
            Cases.due("the twentieth", d.telling(-2000), 19);
            Cases.due("count", d.count(1), 20);
        });
    }

    private static DrawnTold withTellings(int many) {
        DrawnTold d = new DrawnTold();
        for (int t = 0; t < many; t++) {
            Cases.due("telling " + t, d.telling(0), t);
        }
        return d;
    }

    private static void tellingRefused() {
        int[] beyond = {-2001, 2001, LEAST, MOST};
        for (int n : beyond) {
            Cases.refused("4 n " + n, EdgesOfTellingsTest::some, d -> d.telling(n), BAD);
            Cases.refused("4 n " + n + " ahead of full", Cases::fill, d -> d.telling(n), BAD);
        }
        Cases.refused("4 a twenty-first", Cases::fill, d -> d.telling(0), FULL);
        Cases.refused("4 a twenty-first at the edge", Cases::fill, d -> d.telling(2000), FULL);
        Cases.test("4 one that is taken off keeps its place", () -> {
            DrawnTold d = withTellings(20);
            for (int t = 0; t < 20; t++) {
                d.takeOff(t, true);
            }
            Cases.due(d.telling(0), FULL);
        });
        Cases.test("4 a refused one takes no number", () -> {
            DrawnTold d = withTellings(1);
            d.telling(2001);
            Cases.due(d.telling(0), 1);
        });
    }

    // ---- 5

    private static void termTaken() {
        int[] all = {-3, -2, -1, 1, 2, 3};
        for (int times : all) {
            Cases.test("5 times " + times, () -> {
                DrawnTold d = Cases.withPoints(1);
                d.telling(6);
                Cases.due("term", d.term(0, 1, times), 1);
                Cases.due("fixed", d.fixed(1), 1);
                Cases.fractionIs(d, 6 / times + "/1");
            });
        }
        Cases.test("5 one to four", () -> {
            DrawnTold d = Cases.withPoints(2);
            d.telling(0);
            for (int i = 0; i < 4; i++) {
                Cases.due("term " + i, d.term(0, i, 1), i + 1);
            }
        });
        Cases.test("5 the greatest number of two points", () -> {
            DrawnTold d = Cases.withPoints(2);
            d.telling(0);
            Cases.due(d.term(0, 3, 1), 1);
        });
        Cases.test("5 the greatest number of all", () -> {
            DrawnTold d = Cases.withPoints(8);
            d.telling(9);
            Cases.due("term", d.term(0, 15, 3), 1);
            Cases.due("fixed", d.fixed(15), 1);
            Cases.fractionIs(d, "3/1");
        });
        Cases.test("5 the twentieth telling", () -> {
            DrawnTold d = withTellings(20);
            d.point(0, 0);
            Cases.due("term", d.term(19, 1, -3), 1);
            Cases.due("sort", d.sort(19), 0);
        });
        Cases.test("5 a number that another telling has", () -> {
            DrawnTold d = Cases.withPoints(1);
            Cases.tell(d, 0, 0, 1);
            d.telling(1);
            Cases.due(d.term(1, 0, 1), 1);
        });
        Cases.test("5 a number is there as soon as its point is", () -> {
            DrawnTold d = Cases.withPoints(1);
            d.telling(1);
            Cases.due("ahead", d.term(0, 2, 1), BAD);
            d.point(0, 0);
            Cases.due("behind", d.term(0, 2, 1), 1);
        });
        Cases.test("5 of a telling that is taken off", () -> {
            DrawnTold d = Cases.withPoints(1);
            d.telling(1);
            d.takeOff(0, true);
            Cases.due("term", d.term(0, 0, 1), 1);
            Cases.due("sort", d.sort(0), 3);
            d.takeOff(0, false);
            Cases.due("put back", d.sort(0), 0);
        });
        Cases.test("5 each term sorts it anew", () -> {
            DrawnTold d = Cases.withPoints(2);
            Cases.tell(d, 3, 0, 1);
            d.telling(3);
            int[] due = {2, 1, 0, 0, 0};
            Cases.due("without terms", d.sort(1), due[0]);
            for (int i = 0; i < 4; i++) {
                d.term(1, i, 1);
                Cases.due("behind term " + i, d.sort(1), due[i + 1]);
            }
        });
        Cases.test("5 the first and the fourth term sort the next anew", () -> {
            DrawnTold d = Cases.withPoints(2);
            d.telling(3);
            Cases.tell(d, 4, 0, 1, 1, 1, 2, 1, 3, 1);
            Cases.tell(d, 4, 0, 1);
            Cases.due("ahead", d.sort(2), 0);
            d.term(0, 0, 1);
            Cases.due("behind the first", d.sort(2), 2);
            d.term(0, 1, 1);
            d.term(0, 2, 1);
            Cases.due("behind the third", d.sort(1), 0);
            d.term(0, 3, 1);
            Cases.due("behind the fourth", d.sort(1), 2);
        });
        Cases.test("5 a term of one ahead sorts those behind anew", () -> {
            DrawnTold d = Cases.withPoints(1);
            Cases.tell(d, 4, 0, 1);
            Cases.tell(d, 5, 0, 1);
            Cases.due("ahead", d.sort(1), 2);
            d.term(0, 1, 1);
            Cases.due("behind", d.sort(1), 0);
        });
    }

    private static void termRefused() {
        int[] noTelling = {-1, 5, 19, 20, LEAST, MOST};
        for (int telling : noTelling) {
            Cases.refused("5 telling " + telling + " of 5", EdgesOfTellingsTest::some, d -> d.term(telling, 1, 1),
                BAD);
        }
        int[] noNumber = {-1, 6, 15, 16, LEAST, MOST};
        for (int number : noNumber) {
            Cases.refused("5 number " + number + " of 3 points", EdgesOfTellingsTest::some, d -> d.term(1, number, 1),
                BAD);
        }
        int[] noTimes = {0, -4, 4, LEAST, MOST};
        for (int times : noTimes) {
            Cases.refused("5 times " + times, EdgesOfTellingsTest::some, d -> d.term(1, 1, times), BAD);
        }
        Cases.refused("5 a number that it has", EdgesOfTellingsTest::some, d -> d.term(1, 4, 2), BAD);
        Cases.refused("5 a number that it has, times another", EdgesOfTellingsTest::some, d -> d.term(1, 4, -1), BAD);
        Cases.refused("5 a number that it has as its second", EdgesOfTellingsTest::some, d -> d.term(0, 2, 1), BAD);
        Cases.refused("5 a number that it has, when off", EdgesOfTellingsTest::some, d -> d.term(4, 5, 1), BAD);
    }

    /** Telling 0 has the numbers 0, 3, 7 and 12. */
    private static void termRefusedWhenFull() {
        Cases.refused("5 a fifth", Cases::fill, d -> d.term(0, 1, 1), FULL);
        Cases.refused("5 a fifth of the last", Cases::fill, d -> d.term(19, 0, -3), FULL);
        Cases.refused("5 a fifth of one that is off", Cases::fill, d -> d.term(4, 1, 1), FULL);
        int[] has = {0, 3, 7, 12};
        for (int number : has) {
            Cases.refused("5 has " + number + ", ahead of full", Cases::fill, d -> d.term(0, number, 1), BAD);
        }
        Cases.refused("5 no such number, ahead of full", Cases::fill, d -> d.term(0, 16, 1), BAD);
        Cases.refused("5 number below 0, ahead of full", Cases::fill, d -> d.term(0, -1, 1), BAD);
        Cases.refused("5 times 0, ahead of full", Cases::fill, d -> d.term(0, 1, 0), BAD);
        Cases.refused("5 times 4, ahead of full", Cases::fill, d -> d.term(0, 1, 4), BAD);
        Cases.refused("5 times -4, ahead of full", Cases::fill, d -> d.term(0, 1, -4), BAD);
        Cases.refused("5 telling 20 of 20", Cases::fill, d -> d.term(20, 1, 1), BAD);
    }

    // ---- 6

    private static void takeOffTaken() {
        Cases.test("6 the first and only one", () -> {
            DrawnTold d = withTellings(1);
            Cases.due("off", d.takeOff(0, true), 1);
            Cases.due("sort", d.sort(0), 3);
            Cases.due("count", d.count(2), 1);
            Cases.due("back", d.takeOff(0, false), 1);
            Cases.due("sort", d.sort(0), 1);
            Cases.due("count", d.count(2), 0);
        });
        Cases.test("6 all twenty", () -> {
            DrawnTold d = withTellings(20);
            for (int t = 0; t < 20; t++) {
                Cases.due("off", d.takeOff(t, true), 1);
            }
            Cases.due("off", d.count(2), 20);
            Cases.due("all the same there", d.count(1), 20);
            Cases.due("back", d.takeOff(19, false), 1);
            Cases.due("off", d.count(2), 19);
        });
        Cases.test("6 put back, it has its terms", () -> {
            DrawnTold d = Cases.withPoints(1);
            Cases.tell(d, 8, 1, 2);
            long before = d.digest();
            d.takeOff(0, true);
            d.takeOff(0, false);
            Cases.due("digest", d.digest(), before);
        });
    }

    private static void takeOffRefused() {
        int[] noTelling = {-1, 5, 19, 20, LEAST, MOST};
        for (int telling : noTelling) {
            Cases.refused("6 off " + telling + " of 5", EdgesOfTellingsTest::some, d -> d.takeOff(telling, true), BAD);
            Cases.refused("6 back " + telling + " of 5: bad, not no", EdgesOfTellingsTest::some,
                d -> d.takeOff(telling, false), BAD);
        }
        Cases.refused("6 telling 20 of 20", Cases::fill, d -> d.takeOff(20, true), BAD);
        Cases.refused("6 it is not off", EdgesOfTellingsTest::some, d -> d.takeOff(0, false), NO);
        Cases.refused("6 it is off", EdgesOfTellingsTest::some, d -> d.takeOff(4, true), NO);
        Cases.test("6 no longer off", () -> {
            DrawnTold d = withTellings(1);
            d.takeOff(0, true);
            d.takeOff(0, false);
            Cases.due(d.takeOff(0, false), NO);
        });
    }

    // ---- 7

    private static void sortWithoutTerms() {
        Cases.test("7 0 is 0 follows", () -> sortOfEmpty(0, 1));
        int[] others = {1, -1, 2000, -2000};
        for (int n : others) {
            Cases.test("7 0 is " + n + " quarrels", () -> sortOfEmpty(n, 2));
        }
        Cases.test("7 0 is 1, taken off", () -> {
            DrawnTold d = new DrawnTold();
            d.telling(1);
            d.takeOff(0, true);
            Cases.due(d.sort(0), 3);
        });
    }

    private static void sortOfEmpty(int n, int sort) {
        DrawnTold d = new DrawnTold();
        d.telling(n);
        Cases.due("without points", d.sort(0), sort);
        d.point(0, 0);
        Cases.tell(d, n, 0, 1);
        d.telling(n);
        Cases.due("first", d.sort(0), sort);
        Cases.due("behind another", d.sort(2), sort);
    }

    private static void sortAhead() {
        Cases.test("7 the first with a term is new", () -> {
            DrawnTold d = Cases.withPoints(1);
            Cases.due(d.sort(Cases.tell(d, 2000, 1, 3)), 0);
        });
        Cases.test("7 not by those behind it", () -> {
            DrawnTold d = Cases.withPoints(1);
            Cases.tell(d, 4, 0, 1);
            Cases.tell(d, 4, 0, 1);
            Cases.tell(d, 5, 0, 1);
            Cases.due("first", d.sort(0), 0);
            Cases.due("second", d.sort(1), 1);
            Cases.due("third", d.sort(2), 2);
        });
        Cases.test("7 not by one that quarrels", () -> {
            DrawnTold d = Cases.withPoints(1);
            Cases.tell(d, 4, 0, 1);
            Cases.tell(d, 5, 0, 1);
            Cases.tell(d, 5, 0, 1);
            Cases.due(d.sort(2), 2);
        });
        Cases.test("7 not by one that is off", () -> {
            DrawnTold d = Cases.withPoints(1);
            Cases.tell(d, 4, 0, 1);
            Cases.tell(d, 5, 0, 1);
            d.takeOff(0, true);
            Cases.due("off", d.sort(0), 3);
            Cases.due("now new", d.sort(1), 0);
            d.takeOff(0, false);
            Cases.due("put back", d.sort(0), 0);
            Cases.due("quarrels again", d.sort(1), 2);
        });
        Cases.test("7 the same sum, 1 more or less", () -> {
            DrawnTold d = Cases.withPoints(1);
            Cases.tell(d, 1999, 0, 3, 1, -2);
            Cases.due("more", d.sort(Cases.tell(d, 2000, 0, 3, 1, -2)), 2);
            Cases.due("less", d.sort(Cases.tell(d, 1998, 0, 3, 1, -2)), 2);
            Cases.due("so", d.sort(Cases.tell(d, 1999, 1, -2, 0, 3)), 1);
            Cases.due("turned round", d.sort(Cases.tell(d, -1999, 0, -3, 1, 2)), 1);
        });
        Cases.test("7 by fractions, not whole numbers", () -> {
            DrawnTold d = Cases.withPoints(1);
            Cases.tell(d, 1, 0, 3);
            Cases.due("2 x is 1", d.sort(Cases.tell(d, 1, 0, 2)), 2);
            Cases.due("2 x is 0", d.sort(Cases.tell(d, 0, 0, 2)), 2);
            Cases.due("x is 0", d.sort(Cases.tell(d, 0, 0, 1)), 2);
            Cases.due("- 3 x is - 1", d.sort(Cases.tell(d, -1, 0, -3)), 1);
        });
        Cases.test("7 rough places do not matter", () -> {
            DrawnTold d = Cases.withPoints(1);
            Cases.tell(d, 4, 0, 1);
            d.rough(0, 900, 900);
            Cases.due(d.sort(0), 0);
        });
    }

    /** Whatever was asked, and so may have been sorted, before a telling came. */
    private static void sortBehindACall() {
        sortBehind("sort", d -> d.sort(0));
        sortBehind("madeOf", d -> d.madeOf(0));
        sortBehind("tellings", d -> d.tellings(0));
        sortBehind("fixed", d -> d.fixed(0));
        sortBehind("holds", d -> d.holds());
        sortBehind("nearest", d -> d.nearest(0));
        sortBehind("strain", d -> d.strain());
        sortBehind("drag", d -> d.drag(0, 1, 2, 0));
        sortBehind("count", d -> d.count(1));
        sortBehind("digest", d -> d.digest());
    }

    private static void sortBehind(String name, ToLongFunction<DrawnTold> call) {
        Cases.test("7 told behind a call of " + name, () -> {
            DrawnTold d = Cases.withPoints(1);
            Cases.tell(d, 4, 0, 1);
            call.applyAsLong(d);
            Cases.due("0 is 5", d.sort(d.telling(5)), 2);
            call.applyAsLong(d);
            Cases.due("0 is 0", d.sort(d.telling(0)), 1);
            call.applyAsLong(d);
            Cases.due("y is 3", d.sort(Cases.tell(d, 3, 1, 1)), 0);
            call.applyAsLong(d);
            Cases.due("x is 5", d.sort(Cases.tell(d, 5, 0, 1)), 2);
            d.takeOff(0, true);
            call.applyAsLong(d);
            Cases.due("x is 5, alone", d.sort(4), 0);
        });
    }

    private static void sortEdges() {
        Cases.test("7 sixteen new ones, no seventeenth", () -> {
            DrawnTold d = allTold();
            for (int t = 0; t < 16; t++) {
                Cases.due("sort " + t, d.sort(t), 0);
            }
            Cases.due("so", d.sort(Cases.tell(d, 0 + 1 + 14 + 15, 0, 1, 1, 1, 14, 1, 15, 1)), 1);
            Cases.due("not so", d.sort(Cases.tell(d, 31, 0, 1, 1, 1, 14, 1, 15, 1)), 2);
            Cases.due("0 is 0", d.sort(Cases.tell(d, 0)), 1);
            Cases.due("the twentieth", d.sort(Cases.tell(d, 30, 15, 2)), 1);
        });
        int[] noTelling = {-1, 5, 19, 20, LEAST, MOST};
        for (int telling : noTelling) {
            Cases.refused("7 telling " + telling + " of 5", EdgesOfTellingsTest::some, d -> d.sort(telling), BAD);
        }
        Cases.refused("7 telling 20 of 20", Cases::fill, d -> d.sort(20), BAD);
    }

    /** Number i is i, for all 16. */
    private static DrawnTold allTold() {
        DrawnTold d = Cases.withPoints(8);
        for (int i = 0; i < 16; i++) {
            Cases.tell(d, i, i, 1);
        }
        return d;
    }

    // ---- 8

    private static void madeOf() {
        Cases.test("8 0 is 0 is made of none", () -> {
            DrawnTold d = Cases.withPoints(1);
            Cases.tell(d, 3, 0, 1);
            Cases.due(d.madeOf(Cases.tell(d, 0)), 0);
        });
        Cases.test("8 0 is 1 is made of none", () -> {
            DrawnTold d = Cases.withPoints(1);
            Cases.tell(d, 3, 0, 1);
            Cases.due(d.madeOf(Cases.tell(d, 1)), 0);
        });
        Cases.test("8 not of those with factor 0", () -> {
            DrawnTold d = Cases.withPoints(2);
            Cases.tell(d, 3, 0, 1);
            Cases.tell(d, 4, 1, 1);
            Cases.tell(d, 5, 2, 1);
            Cases.due(d.madeOf(Cases.tell(d, 13, 0, 1, 2, 2)), 0b101);
        });
        Cases.test("8 what n is does not matter", () -> {
            DrawnTold d = Cases.withPoints(2);
            Cases.tell(d, 0, 0, 1);
            Cases.tell(d, 0, 1, 1);
            Cases.due("follows", d.madeOf(Cases.tell(d, 0, 0, 1, 1, 2)), 0b11);
            Cases.due("quarrels", d.madeOf(Cases.tell(d, 9, 0, 1, 1, 2)), 0b11);
        });
        Cases.test("8 never of one that follows or quarrels", () -> {
            DrawnTold d = Cases.withPoints(1);
            Cases.tell(d, 3, 0, 1);
            Cases.tell(d, 3, 0, 1);
            Cases.tell(d, 4, 0, 1);
            Cases.due(d.madeOf(Cases.tell(d, 4, 0, 1)), 0b1);
        });
        Cases.test("8 the greatest bit", () -> {
            DrawnTold d = Cases.withPoints(1);
            for (int t = 0; t < 18; t++) {
                d.telling(0);
            }
            Cases.due("new", Cases.tell(d, 5, 0, 1), 18);
            Cases.due("the twentieth", d.madeOf(Cases.tell(d, 10, 0, 2)), 1 << 18);
        });
        Cases.test("8 of all sixteen", () -> {
            DrawnTold d = Cases.withPoints(8);
            for (int i = 0; i < 15; i++) {
                Cases.tell(d, 1, i, 1, i + 1, -1);
            }
            Cases.tell(d, 5, 15, 1);
            Cases.due("follows", d.madeOf(Cases.tell(d, 20, 0, 1)), 0xFFFF);
            Cases.due("quarrels", d.madeOf(Cases.tell(d, 21, 0, 1)), 0xFFFF);
            Cases.due("of the last alone", d.madeOf(Cases.tell(d, 15, 15, 3)), 1 << 15);
        });
    }

    private static void madeOfRefused() {
        int[] noTelling = {-1, 5, 19, 20, LEAST, MOST};
        for (int telling : noTelling) {
            Cases.refused("8 telling " + telling + " of 5", EdgesOfTellingsTest::some, d -> d.madeOf(telling), BAD);
        }
        Cases.refused("8 it is new", EdgesOfTellingsTest::some, d -> d.madeOf(0), NO);
        Cases.refused("8 it is taken off", EdgesOfTellingsTest::some, d -> d.madeOf(4), NO);
        Cases.test("8 it would follow, but is taken off", () -> {
            DrawnTold d = Cases.withPoints(1);
            d.telling(0);
            d.takeOff(0, true);
            Cases.due("off", d.madeOf(0), NO);
            d.takeOff(0, false);
            Cases.due("back", d.madeOf(0), 0);
        });
        Cases.test("8 it quarrelled, but is taken off", () -> {
            DrawnTold d = Cases.withPoints(1);
            Cases.tell(d, 3, 0, 1);
            Cases.tell(d, 4, 0, 1);
            Cases.due("quarrels", d.madeOf(1), 1);
            d.takeOff(1, true);
            Cases.due("off", d.madeOf(1), NO);
        });
    }

    // ---- 9

    private static void tellings() {
        Cases.test("9 sixteen free", () -> Cases.due(Cases.withPoints(8).tellings(3), 16));
        Cases.test("9 two more free with each point", () -> {
            DrawnTold d = new DrawnTold();
            for (int p = 0; p < 8; p++) {
                d.point(0, 0);
                Cases.due("free", d.tellings(3), 2 * p + 2);
            }
        });
        Cases.test("9 sixteen new, none free", () -> {
            DrawnTold d = allTold();
            Cases.due("new", d.tellings(0), 16);
            Cases.due("follow", d.tellings(1), 0);
            Cases.due("quarrel", d.tellings(2), 0);
            Cases.due("free", d.tellings(3), 0);
        });
        Cases.test("9 twenty that follow", () -> {
            DrawnTold d = withTellings(20);
            Cases.due("new", d.tellings(0), 0);
            Cases.due("follow", d.tellings(1), 20);
        });
        Cases.test("9 twenty that quarrel", () -> {
            DrawnTold d = Cases.withPoints(1);
            for (int t = 0; t < 20; t++) {
                d.telling(t + 1);
            }
            Cases.due("quarrel", d.tellings(2), 20);
            Cases.due("they free nothing", d.tellings(3), 2);
        });
        Cases.test("9 who is off is of no sort", () -> {
            DrawnTold d = allTold();
            for (int t = 0; t < 16; t++) {
                d.takeOff(t, true);
            }
            Cases.due("new", d.tellings(0), 0);
            Cases.due("follow", d.tellings(1), 0);
            Cases.due("quarrel", d.tellings(2), 0);
            Cases.due("free", d.tellings(3), 16);
        });
        int[] noWhat = {-1, 4, LEAST, MOST};
        for (int what : noWhat) {
            Cases.refused("9 what " + what, EdgesOfTellingsTest::some, d -> d.tellings(what), BAD);
        }
    }
}
