import java.math.BigInteger;
import java.util.ArrayList;
import java.util.List;

/** Promises 19 to 29: each boundary that the document names, in a case of its own. */
public final class EdgesOfBarsTest {
    private static final int NONE = Cases.NONE, BAD = Cases.BAD, NO = Cases.NO, FULL = Cases.FULL;
    private static final int MOST = Cases.MOST, LEAST = Cases.LEAST;
    private static final int[] NO_POINT_OF_THREE = {-1, 3, 7, 8, LEAST, MOST};
    private static final int[] NO_BAR_OF_TWO = {-1, 2, 19, 20, LEAST, MOST};
    /** All pairs of four points; the last is one too many. */
    private static final int[] FOUR_POINTS = {0, 1, 0, 2, 0, 3, 1, 2, 1, 3, 2, 3};
    /** Each of three to each of three others: as many as may be, and none can go. */
    private static final int[] WELLS = {0, 3, 0, 4, 0, 5, 1, 3, 1, 4, 1, 5, 2, 3, 2, 4, 2, 5};

    public static void main(String[] args) {
        barTaken();
        barRefused();
        sortOf();
        sortOfParts();
        bars();
        round();
        roundRefused();
        kept();
        piece();
        pairsRefused();
        fixes();
        orderOfFew();
        orderByBars();
        whole();
        count();
        digest();
        digestOfAll();
        lastCall();
        Cases.end();
    }

    private static DrawnTold withBars(int points, int... ends) {
        DrawnTold d = Cases.withPoints(points);
        Cases.addBars(d, ends);
        return d;
    }

    // ---- 19

    private static void barTaken() {
        Cases.test("19 the first is 0", () -> Cases.due(Cases.withPoints(2).bar(0, 1), 0));
        Cases.test("19 the greater point first", () -> {
            DrawnTold d = Cases.withPoints(2);
            Cases.due("bar", d.bar(1, 0), 0);
            Cases.due("kept", d.kept(0, 1), 1);
        });
        Cases.test("19 the last two points", () -> {
            DrawnTold d = Cases.withPoints(8);
            Cases.due("bar", d.bar(6, 7), 0);
            Cases.due("kept", d.kept(7, 6), 1);
        });
        Cases.test("19 two points at the same place", () -> {
            DrawnTold d = new DrawnTold();
            d.point(4, 4);
            d.point(4, 4);
            Cases.due(d.bar(0, 1), 0);
        });
        Cases.test("19 one too many has its number too", () -> {
            DrawnTold d = withBars(4, FOUR_POINTS);
            d.point(0, 0);
            Cases.due("sort", d.sortOf(5), 1);
            Cases.due("the next", d.bar(4, 0), 6);
        });
        Cases.test("19 the twentieth is 19", () -> {
            DrawnTold d = Cases.withPoints(8);
            Cases.addBarsInTurn(d, 19);
            Cases.due("the twentieth", d.bar(7, 6), 19);
            Cases.due("count", d.count(3), 20);
        });
    }

    private static void barRefused() {
        for (int point : NO_POINT_OF_THREE) {
            Cases.refused("19 first point " + point + " of 3", EdgesOfTellingsTest::some, d -> d.bar(point, 0), BAD);
            Cases.refused("19 second point " + point + " of 3", EdgesOfTellingsTest::some, d -> d.bar(0, point), BAD);
            Cases.refused("19 both " + point + " of 3", EdgesOfTellingsTest::some, d -> d.bar(point, point), BAD);
        }
        Cases.refused("19 alike", EdgesOfTellingsTest::some, d -> d.bar(2, 2), BAD);
        Cases.refused("19 told", EdgesOfTellingsTest::some, d -> d.bar(2, 1), BAD);
        Cases.refused("19 told the other way round", EdgesOfTellingsTest::some, d -> d.bar(1, 2), BAD);
        Cases.refused("19 a twenty-first", Cases::fill, d -> d.bar(6, 7), FULL);
        Cases.refused("19 a twenty-first the other way round", Cases::fill, d -> d.bar(7, 6), FULL);
        Cases.refused("19 alike, ahead of full", Cases::fill, d -> d.bar(7, 7), BAD);
        Cases.refused("19 told, ahead of full", Cases::fill, d -> d.bar(0, 1), BAD);
        Cases.refused("19 told the other way round, ahead of full", Cases::fill, d -> d.bar(1, 0), BAD);
        Cases.refused("19 told as one too many, ahead of full", Cases::fill, d -> d.bar(3, 5), BAD);
        Cases.refused("19 first point 8 of 8, ahead of full", Cases::fill, d -> d.bar(8, 0), BAD);
        Cases.refused("19 second point 8 of 8, ahead of full", Cases::fill, d -> d.bar(0, 8), BAD);
        Cases.refused("19 point below 0, ahead of full", Cases::fill, d -> d.bar(-1, 7), BAD);
        Cases.test("19 told as one too many", () -> {
            DrawnTold d = withBars(4, FOUR_POINTS);
            Cases.due("so", d.bar(2, 3), BAD);
            Cases.due("the other way round", d.bar(3, 2), BAD);
            Cases.due("count", d.count(3), 6);
        });
        Cases.test("19 a refused one takes no number", () -> {
            DrawnTold d = Cases.withPoints(3);
            d.bar(0, 0);
            d.bar(0, 3);
            Cases.due(d.bar(0, 1), 0);
        });
    }

    // ---- 20

    private static void sortOf() {
        Cases.test("20 the first is new", () -> Cases.due(withBars(2, 0, 1).sortOf(0), 0));
        Cases.test("20 three of three points are new", () -> {
            Cases.due(withBars(3, 0, 1, 1, 2, 2, 0).sortOf(2), 0);
        });
        Cases.test("20 the fifth of four points is new", () -> Cases.due(withBars(4, FOUR_POINTS).sortOf(4), 0));
        Cases.test("20 the sixth of four points is one too many", () -> {
            Cases.due(withBars(4, FOUR_POINTS).sortOf(5), 1);
        });
        Cases.test("20 who comes first is new", () -> {
            DrawnTold d = withBars(4, 2, 3, 0, 2, 0, 3, 1, 2, 1, 3, 0, 1);
            Cases.due("first", d.sortOf(0), 0);
            Cases.due("last", d.sortOf(5), 1);
        });
        Cases.test("20 the twentieth", () -> {
            DrawnTold d = Cases.withPoints(8);
            Cases.addBarsInTurn(d, 20);
            Cases.due("thirteenth", d.sortOf(12), 0);
            Cases.due("fourteenth", d.sortOf(13), 1);
            Cases.due("twentieth", d.sortOf(19), 1);
        });
        Cases.test("20 the twentieth is new", () -> {
            DrawnTold d = Cases.withPoints(6);
            Cases.addBarsInTurn(d, 15);
            d.point(0, 0);
            d.point(0, 0);
            Cases.addBars(d, 6, 0, 6, 1, 6, 2, 6, 3, 7, 5);
            Cases.due("nineteenth", d.sortOf(18), 1);
            Cases.due("twentieth", d.sortOf(19), 0);
        });
        for (int bar : NO_BAR_OF_TWO) {
            Cases.refused("20 bar " + bar + " of 2", EdgesOfTellingsTest::some, d -> d.sortOf(bar), BAD);
        }
        Cases.refused("20 bar 20 of 20", Cases::fill, d -> d.sortOf(20), BAD);
    }

    private static void sortOfParts() {
        Cases.test("20 a part of it is enough", () -> {
            DrawnTold d = withBars(8, FOUR_POINTS);
            Cases.due("one too many", d.sortOf(5), 1);
            Cases.due("though all is loose", d.bars(2), 8);
        });
        Cases.test("20 who is one too many does not count", () -> {
            DrawnTold d = withBars(4, FOUR_POINTS);
            d.point(0, 0);
            Cases.addBars(d, 4, 2, 4, 3, 4, 0);
            Cases.due("one", d.sortOf(6), 0);
            Cases.due("two", d.sortOf(7), 0);
            Cases.due("three", d.sortOf(8), 1);
        });
        Cases.test("20 two triangles about a point, and a bar across", () -> {
            DrawnTold d = withBars(5, 0, 1, 1, 2, 2, 0, 2, 3, 3, 4, 4, 2, 0, 3, 1, 4);
            Cases.due("a bar across", d.sortOf(6), 0);
            Cases.due("a second", d.sortOf(7), 1);
        });
        Cases.test("20 nine of six points without a triangle", () -> {
            DrawnTold d = withBars(6, WELLS);
            Cases.due("the ninth", d.sortOf(8), 0);
            Cases.due("a tenth", d.bar(0, 1), 9);
            Cases.due("its sort", d.sortOf(9), 1);
        });
        Cases.test("20 thirteen of eight points, each of four to each of four", () -> {
            DrawnTold d = Cases.withPoints(8);
            for (int a = 0; a < 4; a++) {
                for (int b = 4; b < 8; b++) {
                    d.bar(a, b);
                }
            }
            Cases.due("new", d.bars(0), 13);
            Cases.due("one too many", d.bars(1), 3);
            // three to four are 12 bars, one more than 7 points may have
            Cases.due("the twelfth", d.sortOf(11), 1);
            Cases.due("the fourteenth", d.sortOf(13), 0);
            Cases.due("the fifteenth", d.sortOf(14), 1);
        });
        Cases.test("20 a point more changes no sort", () -> {
            DrawnTold d = withBars(4, FOUR_POINTS);
            d.point(0, 0);
            Cases.due(d.sortOf(5), 1);
        });
    }

    // ---- 21

    private static void bars() {
        Cases.test("21 loose of no point", () -> Cases.due(new DrawnTold().bars(2), 0));
        Cases.test("21 loose of one point", () -> Cases.due(Cases.withPoints(1).bars(2), 0));
        Cases.test("21 loose of two points", () -> Cases.due(Cases.withPoints(2).bars(2), 1));
        Cases.test("21 loose of three points", () -> Cases.due(Cases.withPoints(3).bars(2), 3));
        Cases.test("21 loose of eight points", () -> Cases.due(Cases.withPoints(8).bars(2), 13));
        Cases.test("21 two points and their bar", () -> Cases.due(withBars(2, 0, 1).bars(2), 0));
        Cases.test("21 twenty bars", () -> {
            DrawnTold d = Cases.withPoints(8);
            Cases.addBarsInTurn(d, 20);
            Cases.due("new", d.bars(0), 13);
            Cases.due("one too many", d.bars(1), 7);
            Cases.due("loose", d.bars(2), 0);
        });
        Cases.test("21 no bar yet", () -> {
            DrawnTold d = Cases.withPoints(8);
            Cases.due("new", d.bars(0), 0);
            Cases.due("one too many", d.bars(1), 0);
        });
        int[] noWhat = {-1, 3, LEAST, MOST};
        for (int what : noWhat) {
            Cases.refused("21 what " + what, EdgesOfTellingsTest::some, d -> d.bars(what), BAD);
        }
    }

    // ---- 22

    private static void round() {
        Cases.test("22 the five others of four points", () -> {
            Cases.due(withBars(4, FOUR_POINTS).round(5), 0b11111);
        });
        Cases.test("22 not those that lie outside", () -> {
            DrawnTold d = withBars(6, 4, 5, 0, 4, 1, 4);
            Cases.addBars(d, FOUR_POINTS);
            Cases.due(d.round(8), 0b11111000);
        });
        Cases.test("22 all nine", () -> {
            DrawnTold d = withBars(6, WELLS);
            Cases.addBars(d, 0, 1);
            Cases.due(d.round(9), 0x1FF);
        });
        Cases.test("22 never one that is one too many", () -> {
            DrawnTold d = withBars(4, FOUR_POINTS);
            d.point(0, 0);
            Cases.addBars(d, 4, 2, 4, 3, 4, 0);
            // 2, 3 and 0 hold 4; what 2 3 says is said by 01, 02, 03, 12, 13
            Cases.due(d.round(8), 0b11011111);
        });
        Cases.test("22 a new one behind it changes nothing", () -> {
            DrawnTold d = withBars(4, FOUR_POINTS);
            d.point(0, 0);
            Cases.addBars(d, 4, 2, 4, 3);
            Cases.due(d.round(5), 0b11111);
        });
        Cases.test("22 the greatest bit", () -> {
            DrawnTold d = Cases.withPoints(6);
            Cases.addBarsInTurn(d, 15);
            d.point(0, 0);
            d.point(0, 0);
            Cases.addBars(d, 6, 0, 6, 1, 7, 0, 7, 6, 7, 1);
            Cases.due(d.round(19), 1 | 1 << 15 | 1 << 16 | 1 << 17 | 1 << 18);
        });
        Cases.test("22 the twentieth, of a pair with two others", () -> {
            DrawnTold d = Cases.withPoints(8);
            Cases.addBarsInTurn(d, 20);
            // 3 5 with 01, 03, 05, 13, 15
            Cases.due(d.round(19), 1 << 0 | 1 << 2 | 1 << 4 | 1 << 8 | 1 << 10);
        });
    }

    private static void roundRefused() {
        for (int bar : NO_BAR_OF_TWO) {
            Cases.refused("22 bar " + bar + " of 2", EdgesOfTellingsTest::some, d -> d.round(bar), BAD);
        }
        Cases.refused("22 bar 20 of 20", Cases::fill, d -> d.round(20), BAD);
        Cases.refused("22 the first is new", EdgesOfTellingsTest::some, d -> d.round(0), NO);
        Cases.refused("22 the last is new", EdgesOfTellingsTest::some, d -> d.round(1), NO);
        Cases.refused("22 the thirteenth is new", Cases::fill, d -> d.round(12), NO);
    }

    // ---- 23

    private static void kept() {
        Cases.test("23 two points alone are not", () -> Cases.due(Cases.withPoints(2).kept(0, 1), 0));
        Cases.test("23 two points with a bar are", () -> Cases.due(withBars(2, 0, 1).kept(0, 1), 1));
        Cases.test("23 either way round", () -> Cases.due(withBars(2, 0, 1).kept(1, 0), 1));
        Cases.test("23 by a bar that is one too many", () -> Cases.due(withBars(4, FOUR_POINTS).kept(2, 3), 1));
        Cases.test("23 without a bar, one bar short of stiff", () -> {
            Cases.due(withBars(4, 0, 1, 1, 2, 2, 3, 3, 0).kept(0, 2), 0);
        });
        Cases.test("23 without a bar, stiff", () -> {
            DrawnTold d = withBars(4, 0, 1, 1, 2, 2, 3, 3, 0, 1, 3);
            Cases.due("kept", d.kept(0, 2), 1);
            Cases.due("no bar came of it", d.count(3), 5);
        });
        Cases.test("23 across a joint they are not", () -> {
            DrawnTold d = withBars(5, 0, 1, 1, 2, 2, 0, 2, 3, 3, 4, 4, 2);
            Cases.due("across", d.kept(1, 4), 0);
            Cases.due("to the joint", d.kept(1, 2), 1);
            d.bar(0, 3);
            Cases.due("with a bar across", d.kept(1, 4), 1);
        });
        Cases.test("23 only with all six", () -> {
            int[] eight = new int[16];
            System.arraycopy(WELLS, 0, eight, 0, 16);
            DrawnTold d = withBars(6, eight);
            Cases.due("eight bars", d.kept(0, 1), 0);
            d.bar(2, 5);
            Cases.due("nine bars", d.kept(0, 1), 1);
        });
        Cases.test("23 the last points", () -> {
            DrawnTold d = withBars(8, 6, 7);
            Cases.due("kept", d.kept(6, 7), 1);
            Cases.due("not kept", d.kept(5, 7), 0);
        });
        Cases.test("23 a point more is not kept", () -> {
            DrawnTold d = withBars(3, 0, 1, 1, 2, 0, 2);
            d.point(0, 0);
            Cases.due(d.kept(3, 0), 0);
        });
        Cases.refused("23 asking changes nothing", EdgesOfTellingsTest::some, d -> d.kept(0, 2), 0);
    }

    // ---- 24

    private static void piece() {
        Cases.test("24 a bar alone", () -> Cases.due(withBars(8, 6, 7).piece(7, 6), 0b11000000));
        Cases.test("24 a third kept to one of them alone", () -> Cases.due(withBars(3, 0, 1, 1, 2).piece(0, 1), 0b11));
        Cases.test("24 a triangle", () -> Cases.due(withBars(3, 0, 1, 1, 2, 0, 2).piece(0, 1), 0b111));
        Cases.test("24 without a bar between them", () -> {
            Cases.due(withBars(4, 0, 1, 1, 2, 2, 3, 3, 0, 1, 3).piece(0, 2), 0b1111);
        });
        Cases.test("24 by a bar that is one too many", () -> Cases.due(withBars(5, FOUR_POINTS).piece(3, 2), 0b1111));
        Cases.test("24 two pieces at a joint", () -> {
            DrawnTold d = withBars(5, 0, 1, 1, 2, 2, 0, 2, 3, 3, 4, 4, 2);
            Cases.due("one", d.piece(2, 0), 0b00111);
            Cases.due("the other", d.piece(2, 4), 0b11100);
            Cases.due("across", d.piece(0, 4), NO);
        });
        Cases.test("24 all eight", () -> {
            DrawnTold d = Cases.withPoints(8);
            Cases.addBarsInTurn(d, 13);
            Cases.due(d.piece(6, 7), 255);
        });
        Cases.test("24 not kept", () -> Cases.due(Cases.withPoints(2).piece(0, 1), NO));
    }

    private static void pairsRefused() {
        for (int point : NO_POINT_OF_THREE) {
            Cases.refused("23 first point " + point + " of 3", EdgesOfTellingsTest::some, d -> d.kept(point, 0), BAD);
            Cases.refused("23 second point " + point + " of 3", EdgesOfTellingsTest::some, d -> d.kept(0, point), BAD);
            Cases.refused("23 both " + point + " of 3", EdgesOfTellingsTest::some, d -> d.kept(point, point), BAD);
            Cases.refused("24 first point " + point + " of 3", EdgesOfTellingsTest::some, d -> d.piece(point, 0), BAD);
            Cases.refused("24 second point " + point + " of 3", EdgesOfTellingsTest::some, d -> d.piece(0, point),
                BAD);
            Cases.refused("24 both " + point + " of 3", EdgesOfTellingsTest::some, d -> d.piece(point, point), BAD);
        }
        Cases.refused("23 point 8 of 8", Cases::fill, d -> d.kept(8, 0), BAD);
        Cases.refused("24 point 8 of 8", Cases::fill, d -> d.piece(0, 8), BAD);
        Cases.refused("23 alike", EdgesOfTellingsTest::some, d -> d.kept(1, 1), BAD);
        Cases.refused("24 alike: bad, not no", EdgesOfTellingsTest::some, d -> d.piece(1, 1), BAD);
        Cases.refused("23 alike, the last", Cases::fill, d -> d.kept(7, 7), BAD);
        Cases.refused("24 alike, the last", Cases::fill, d -> d.piece(7, 7), BAD);
        Cases.refused("24 not kept", EdgesOfTellingsTest::some, d -> d.piece(0, 2), NO);
    }

    // ---- 25

    private static void fixes() {
        Cases.test("25 of one point", () -> fixesAre(Cases.withPoints(1)));
        Cases.test("25 of two points", () -> fixesAre(Cases.withPoints(2), 1));
        Cases.test("25 of two points with a bar", () -> fixesAre(withBars(2, 0, 1)));
        Cases.test("25 by a, then b", () -> fixesAre(withBars(4, 2, 1), 1, 2, 3, 13, 23));
        Cases.test("25 not those that are kept without a bar", () -> {
            fixesAre(withBars(5, 0, 1, 1, 2, 2, 3, 3, 0, 1, 3), 4, 14, 24, 34);
        });
        Cases.test("25 a joint", () -> {
            fixesAre(withBars(5, 0, 1, 1, 2, 2, 0, 2, 3, 3, 4, 4, 2), 3, 4, 13, 14);
        });
        Cases.test("25 of eight points, the last is 67", () -> {
            DrawnTold d = Cases.withPoints(8);
            Cases.due("how many", d.fixes(NONE), 28);
            Cases.due("the first", d.fixes(0), 1);
            Cases.due("the last", d.fixes(27), 67);
            Cases.due("no more", d.fixes(28), -5);
        });
        Cases.test("25 all is stiff", () -> {
            DrawnTold d = Cases.withPoints(8);
            Cases.addBarsInTurn(d, 13);
            fixesAre(d);
        });
        Cases.test("25 each of them makes less loose", () -> {
            DrawnTold d = withBars(5, 0, 1, 1, 2, 2, 0, 2, 3, 3, 4, 4, 2);
            Cases.due("loose", d.bars(2), 1);
            d.bar(d.fixes(3) / 10, d.fixes(3) % 10);
            Cases.due("stiff", d.bars(2), 0);
            fixesAre(d);
        });
        int[] below = {-2, -3, -5, -10, LEAST};
        for (int what : below) {
            Cases.refused("25 what " + what, EdgesOfTellingsTest::some, d -> d.fixes(what), -10);
        }
        int[] beyond = {1, 28, MOST};
        for (int what : beyond) {
            Cases.refused("25 no fix " + what, EdgesOfTellingsTest::some, d -> d.fixes(what), -5);
        }
    }

    private static void fixesAre(DrawnTold d, int... pairs) {
        Cases.due("how many", d.fixes(NONE), pairs.length);
        for (int i = 0; i < pairs.length; i++) {
            Cases.due("fix " + i, d.fixes(i), pairs[i]);
        }
        Cases.due("no more", d.fixes(pairs.length), -5);
    }

    // ---- 26

    private static void orderOfFew() {
        Cases.test("26 of one point", () -> orderIs(Cases.withPoints(1), 0));
        Cases.test("26 of two points", () -> orderIs(Cases.withPoints(2), 0, 1));
        Cases.test("26 of three points", () -> orderIs(Cases.withPoints(3), 0, 1, 2));
        Cases.test("26 of eight points", () -> orderIs(Cases.withPoints(8), 0, 1, 2, 3, 4, 5, 6, 7));
        int[] below = {-1, -2, LEAST};
        for (int i : below) {
            Cases.refused("26 i " + i, EdgesOfTellingsTest::some, d -> d.order(i), BAD);
            Cases.test("26 i " + i + " without points", () -> Cases.due(new DrawnTold().order(i), BAD));
        }
        int[] beyond = {3, 7, 8, MOST};
        for (int i : beyond) {
            Cases.refused("26 no " + i + " of 3", EdgesOfTellingsTest::some, d -> d.order(i), NONE);
        }
        Cases.refused("26 no 8 of 8", Cases::fill, d -> d.order(8), NONE);
    }

    private static void orderByBars() {
        Cases.test("26 with two bars it goes", () -> {
            orderIs(withBars(4, 3, 0, 3, 1), 0, 1, 2, 3);
        });
        Cases.test("26 with three it stays till one of them goes", () -> {
            orderIs(withBars(8, 7, 0, 7, 1, 7, 2), 0, 1, 7, 2, 3, 4, 5, 6);
        });
        Cases.test("26 a bar that is one too many does not hold it", () -> {
            orderIs(withBars(4, FOUR_POINTS), 0, 1, 2, 3);
        });
        Cases.test("26 the two that are left have a bar or not", () -> {
            orderIs(withBars(3, 1, 2), 0, 1, 2);
        });
        Cases.test("26 once it can go, the greatest goes first again", () -> {
            // 5 has 0, 1, 4 and 4 has 5, 2, 3: 3 goes, then 4, then 5, then 2
            orderIs(withBars(6, 5, 0, 5, 1, 5, 4, 4, 2, 4, 3), 0, 1, 2, 5, 4, 3);
        });
        Cases.test("26 those that can't go, by their numbers", () -> {
            orderIs(withBars(6, WELLS), 0, 1, 2, 3, 4, 5);
        });
        Cases.test("26 those that can't go, then those that went", () -> {
            int[] shifted = new int[18];
            for (int i = 0; i < 18; i++) {
                shifted[i] = WELLS[i] < 3 ? WELLS[i] + 1 : WELLS[i] + 2;
            }
            orderIs(withBars(8, shifted), 1, 2, 3, 5, 6, 7, 0, 4);
        });
    }

    private static void orderIs(DrawnTold d, int... points) {
        for (int i = 0; i < points.length; i++) {
            Cases.due("order " + i, d.order(i), points[i]);
        }
        Cases.due("no more", d.order(points.length), NONE);
    }

    // ---- 27

    private static void whole() {
        for (int many = 0; many <= 3; many++) {
            int points = many;
            Cases.test("27 of " + points + " points without bars", () -> {
                Cases.due(Cases.withPoints(points).whole(), 0);
            });
        }
        Cases.test("27 two with a bar", () -> Cases.due(withBars(2, 0, 1).whole(), 0));
        Cases.test("27 three with three bars", () -> Cases.due(withBars(3, 0, 1, 1, 2, 2, 0).whole(), 0));
        Cases.test("27 four with six, one too many", () -> Cases.due(withBars(4, FOUR_POINTS).whole(), 0));
        Cases.test("27 six of which none can go", () -> Cases.due(withBars(6, WELLS).whole(), 63));
        Cases.test("27 one bar less, and all can go", () -> {
            int[] eight = new int[16];
            System.arraycopy(WELLS, 0, eight, 0, 16);
            Cases.due(withBars(6, eight).whole(), 0);
        });
        Cases.test("27 two triangles with three bars between them", () -> {
            Cases.due(withBars(6, 0, 1, 1, 2, 2, 0, 3, 4, 4, 5, 5, 3, 0, 3, 1, 4, 2, 5).whole(), 63);
        });
        Cases.test("27 two more points go", () -> {
            DrawnTold d = withBars(8, WELLS);
            Cases.addBars(d, 6, 0, 7, 0, 6, 7);
            Cases.due(d.whole(), 63);
        });
        Cases.test("27 all eight: a cube", () -> {
            Cases.due(withBars(8, 0, 1, 1, 2, 2, 3, 3, 0, 4, 5, 5, 6, 6, 7, 7, 4, 0, 4, 1, 5, 2, 6, 3, 7).whole(),
                255);
        });
        Cases.test("27 twenty bars, and all can go", () -> {
            DrawnTold d = Cases.withPoints(8);
            Cases.addBarsInTurn(d, 20);
            Cases.due(d.whole(), 0);
        });
    }

    // ---- 28

    private static void count() {
        Cases.test("28 all is full", () -> {
            DrawnTold d = new DrawnTold();
            Cases.fill(d);
            Cases.due("points", d.count(0), 8);
            Cases.due("tellings", d.count(1), 20);
            Cases.due("taken off", d.count(2), 2);
            Cases.due("bars", d.count(3), 20);
        });
        Cases.test("28 points alone", () -> countsAre(Cases.withPoints(1), 1, 0, 0, 0));
        Cases.test("28 a telling alone", () -> {
            DrawnTold d = new DrawnTold();
            d.telling(0);
            countsAre(d, 0, 1, 0, 0);
        });
        Cases.test("28 one taken off is a telling still", () -> {
            DrawnTold d = new DrawnTold();
            d.telling(0);
            d.takeOff(0, true);
            countsAre(d, 0, 1, 1, 0);
        });
        Cases.test("28 a bar that is one too many is a bar", () -> countsAre(withBars(4, FOUR_POINTS), 4, 0, 0, 6));
        int[] noWhat = {-1, 4, LEAST, MOST};
        for (int what : noWhat) {
            Cases.refused("28 what " + what, EdgesOfTellingsTest::some, d -> d.count(what), BAD);
        }
    }

    private static void countsAre(DrawnTold d, int... counts) {
        for (int what = 0; what < 4; what++) {
            Cases.due("count " + what, d.count(what), counts[what]);
        }
    }

    // ---- 29

    static long hash(int... values) {
        long h = 409;
        for (int v : values) {
            h = 31 * h + v;
        }
        return h;
    }

    private static void digest() {
        Cases.test("29 of nothing", () -> Cases.due(new DrawnTold().digest(), hash(0, 0, 0, 0, 0, 0, 0, 0, 0, 1, 1)));
        Cases.test("29 a point", () -> {
            DrawnTold d = new DrawnTold();
            d.point(-1000, 1000);
            Cases.due(d.digest(), hash(1, 0, 0, 0, -1000, 1000, 0, 0, 0, 0, 0, 1, 1));
        });
        Cases.test("29 tellings without terms", () -> {
            DrawnTold d = new DrawnTold();
            d.telling(0);
            d.telling(-2000);
            d.telling(7);
            d.takeOff(2, true);
            Cases.due(d.digest(), hash(0, 3, 1, 0, 0, 0, 1, -2000, 0, 2, 7, 0, 3, 0, 0, 0, 0, 0, 1, 1));
        });
        Cases.test("29 terms as they came", () -> {
            DrawnTold d = new DrawnTold();
            d.point(0, 0);
            Cases.tell(d, 5, 1, -3, 0, 2);
            Cases.due(d.digest(), hash(1, 1, 0, 0, 0, 0, 5, 2, 1, -3, 0, 2, 0, 0, 0, 0, 0, 0, 1, 1));
        });
        Cases.test("29 the question", () -> {
            DrawnTold d = new DrawnTold();
            d.point(0, 0);
            Cases.question(d, -6, 1, -3, 0, 2);
            Cases.due(d.digest(), hash(1, 0, 0, 0, 0, 0, -6, 2, 1, -3, 0, 2, 0, 0, 0, 1, 1));
        });
        Cases.test("29 a bar as it was told", () -> {
            DrawnTold d = new DrawnTold();
            d.point(0, 0);
            d.point(0, 0);
            d.bar(1, 0);
            Cases.due(d.digest(), hash(2, 0, 0, 1, 0, 0, 0, 0, 0, 0, 1, 0, 0, 0, 0, 0, 1, 1));
        });
        Cases.test("29 a fraction below 0", () -> {
            DrawnTold d = new DrawnTold();
            d.point(0, 0);
            Cases.tell(d, -2, 0, 3);
            d.fixed(0);
            Cases.due(d.digest(), hash(1, 1, 0, 0, 0, 0, -2, 1, 0, 3, 0, 0, 0, 0, -1, 1, 1, 2, 3));
        });
        Cases.refused("29 asking changes nothing", EdgesOfTellingsTest::some, d -> d.digest() == 0 ? 1 : 0, 0);
    }

    private static void digestOfAll() {
        Cases.test("29 all is full, and h goes round many times", () -> {
            DrawnTold d = new DrawnTold();
            Cases.fill(d);
            Cases.due(d.digest(), wrapped(valuesOfFull(d)));
        });
        Cases.test("29 what is whole, what is one too many", () -> {
            DrawnTold d = new DrawnTold();
            List<Integer> values = new ArrayList<>(List.of(6, 0, 0, 10));
            for (int p = 0; p < 6; p++) {
                d.point(0, 0);
                values.addAll(List.of(0, 0));
            }
            values.addAll(List.of(0, 0));
            Cases.addBars(d, WELLS);
            Cases.addBars(d, 1, 0);
            for (int i = 0; i < 18; i += 2) {
                values.addAll(List.of(WELLS[i], WELLS[i + 1], 0));
            }
            values.addAll(List.of(1, 0, 1, 63, 0, 0, 1, 1));
            Cases.due(d.digest(), wrapped(values));
        });
    }

    private static void lastCall() {
        Cases.test("29 the 512th call is answered as the first", () -> {
            DrawnTold d = new DrawnTold();
            d.point(0, 0);
            for (int call = 2; call < 512; call++) {
                Cases.due("call " + call, d.rough(0, call, -call), 1);
            }
            Cases.due("call 512", d.digest(), hash(1, 0, 0, 0, 511, -511, 0, 0, 0, 0, 0, 1, 1));
        });
    }

    /** As fill tells it; only the fraction's limbs are taken as the drawing answers them. */
    private static List<Integer> valuesOfFull(DrawnTold d) {
        List<Integer> values = new ArrayList<>(List.of(8, 20, 2, 20));
        for (int p = 0; p < 8; p++) {
            values.addAll(List.of(10 * p, p));
        }
        int[] sorts = {0, 0, 0, 0, 3, 0, 0, 0, 0, 0, 0, 0, 0, 3, 1, 2, 1, 0, 1, 2};
        for (int t = 0; t < 20; t++) {
            values.addAll(List.of(Cases.totalOfFull(t), 4));
            for (int value : Cases.termsOfFull(t)) {
                values.add(value);
            }
            values.add(sorts[t]);
        }
        values.addAll(List.of(7, 4, 0, 1, 1, -1, 2, 2, 3, -3));
        int bar = 0;
        for (int a = 0; a < 8; a++) {
            for (int b = a + 1; b < 8 && bar < 20; b++) {
                values.addAll(List.of(a, b, bar < 13 ? 0 : 1));
                bar++;
            }
        }
        values.add(0);
        for (int what = 0; what < 3; what++) {
            values.add(d.sign(what));
        }
        for (int which = 0; which < 2; which++) {
            int limbs = d.sign(1 + which);
            Cases.due("limbs of " + which + " are several", limbs > 1 ? 1 : 0, 1);
            for (int i = 0; i < limbs; i++) {
                values.add(d.limb(which, i));
            }
        }
        return values;
    }

    /** With numbers of any length, of which the lowest 64 bits are left at the end. */
    private static long wrapped(List<Integer> values) {
        BigInteger h = BigInteger.valueOf(409);
        for (int v : values) {
            h = h.multiply(BigInteger.valueOf(31)).add(BigInteger.valueOf(v));
        }
        return h.longValue();
    }
}
