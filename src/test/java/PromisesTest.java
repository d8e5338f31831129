/** Each promise by hand: ordinary calls, the edges that the document names, wrong inputs. */
public final class PromisesTest {
    private static final int NONE = DrawnTold.NONE, BAD = DrawnTold.BAD, NO = DrawnTold.NO, FULL = DrawnTold.FULL;
    private static final int MOST = Integer.MAX_VALUE, LEAST = Integer.MIN_VALUE;
    private static int wrong = 0;

    private static void due(String what, long got, long want) {
        if (got != want) {
            wrong++;
            System.out.println(what + " answered " + got + ", due is " + want);
        }
    }

    public static void main(String[] args) {
        newObject();
        point();
        rough();
        telling();
        term();
        takeOff();
        sortsAndMakings();
        tellings();
        fixed();
        questions();
        nearestAndStrain();
        drag();
        signAndLimb();
        bar();
        sortOfAndBars();
        round();
        keptAndPiece();
        fixes();
        orderAndWhole();
        count();
        digest();
        refusedChangesNothing();
        System.out.println(wrong == 0 ? "all promises are kept" : wrong + " answers are not as due");
        if (wrong != 0) {
            System.exit(1);
        }
    }

    private static DrawnTold withPoints(int many) {
        DrawnTold d = new DrawnTold();
        for (int i = 0; i < many; i++) {
            due("point " + i, d.point(10 * i, i), i);
        }
        return d;
    }

    private static int tell(DrawnTold d, int n, int... terms) {
        int t = d.telling(n);
        for (int i = 0; i < terms.length; i += 2) {
            due("term " + i / 2 + " of telling " + t, d.term(t, terms[i], terms[i + 1]), i / 2 + 1);
        }
        return t;
    }

    private static void fractionIs(String what, DrawnTold d, long above, long below) {
        due(what + ": sign", d.sign(0), Long.signum(above));
        limbsAre(what + ": above", d, 0, Math.abs(above));
        limbsAre(what + ": below", d, 1, below);
    }

    private static void limbsAre(String what, DrawnTold d, int which, long value) {
        int i = 0;
        for (long rest = value; rest != 0; rest >>= 30) {
            due(what + ": limb " + i, d.limb(which, i), rest & 1073741823);
            i++;
        }
        due(what + ": limbs", d.sign(1 + which), i);
        due(what + ": beyond", d.limb(which, i), NONE);
    }

    // 1
    private static void newObject() {
        DrawnTold d = new DrawnTold();
        for (int what = 0; what < 4; what++) {
            due("1: count", d.count(what), 0);
            due("1: tellings", d.tellings(what), 0);
        }
        for (int what = 0; what < 3; what++) {
            due("1: bars", d.bars(what), 0);
        }
        fractionIs("1", d, 0, 1);
        due("1: holds", d.holds(), 1);
        due("1: whole", d.whole(), 0);
        due("1: order", d.order(0), NONE);
        due("1: fixes", d.fixes(NONE), 0);
        due("1: fixes(0)", d.fixes(0), -5);
        due("1: sort", d.sort(0), BAD);
        due("1: sortOf", d.sortOf(0), BAD);
        due("1: nearest", d.nearest(0), BAD);
        due("1: strain", d.strain(), 1);
        fractionIs("1: strain", d, 0, 1);
    }

    // 2
    private static void point() {
        DrawnTold d = new DrawnTold();
        due("2: x too great", d.point(1001, 0), BAD);
        due("2: x too small", d.point(-1001, 0), BAD);
        due("2: y too great", d.point(0, 1001), BAD);
        due("2: y too small", d.point(0, LEAST), BAD);
        due("2: x least int", d.point(LEAST, 0), BAD);
        due("2: greatest", d.point(1000, 1000), 0);
        due("2: least", d.point(-1000, -1000), 1);
        for (int i = 2; i < 8; i++) {
            due("2: next", d.point(i, i), i);
        }
        due("2: full", d.point(0, 0), FULL);
        due("2: bad ahead of full", d.point(0, 1001), BAD);
        due("2: eight", d.count(0), 8);
    }

    // 3
    private static void rough() {
        DrawnTold d = withPoints(2);
        due("3", d.rough(1, -1000, 1000), 1);
        d.nearest(2);
        fractionIs("3: x", d, -1000, 1);
        d.nearest(3);
        fractionIs("3: y", d, 1000, 1);
        due("3: no such point", d.rough(2, 0, 0), BAD);
        due("3: point below 0", d.rough(-1, 0, 0), BAD);
        due("3: x", d.rough(0, 1001, 0), BAD);
        due("3: y", d.rough(0, 0, -1001), BAD);
    }

    // 4
    private static void telling() {
        DrawnTold d = new DrawnTold();
        due("4: too great", d.telling(2001), BAD);
        due("4: too small", d.telling(-2001), BAD);
        due("4: greatest", d.telling(2000), 0);
        due("4: least", d.telling(-2000), 1);
        for (int i = 2; i < 20; i++) {
            due("4: next", d.telling(0), i);
        }
        due("4: full", d.telling(0), FULL);
        due("4: bad ahead of full", d.telling(MOST), BAD);
        due("4: 0 is 2000", d.sort(0), 2);
        due("4: 0 is 0", d.sort(2), 1);
    }

    // 5
    private static void term() {
        DrawnTold d = withPoints(3);
        due("5: no telling", d.term(0, 0, 1), BAD);
        d.telling(0);
        due("5: times 0", d.term(0, 0, 0), BAD);
        due("5: times 4", d.term(0, 0, 4), BAD);
        due("5: times -4", d.term(0, 0, -4), BAD);
        due("5: number of no point", d.term(0, 6, 1), BAD);
        due("5: number below 0", d.term(0, -1, 1), BAD);
        due("5: telling below 0", d.term(-1, 0, 1), BAD);
        due("5: telling beyond", d.term(1, 0, 1), BAD);
        due("5: first", d.term(0, 5, 3), 1);
        due("5: has it", d.term(0, 5, 1), BAD);
        due("5: second", d.term(0, 0, -3), 2);
        due("5: third", d.term(0, 1, 1), 3);
        due("5: fourth", d.term(0, 2, 1), 4);
        due("5: full", d.term(0, 3, 1), FULL);
        due("5: bad ahead of full", d.term(0, 5, 1), BAD);
        due("5: times 0 ahead of full", d.term(0, 3, 0), BAD);
    }

    // 6
    private static void takeOff() {
        DrawnTold d = withPoints(1);
        due("6: none", d.takeOff(0, true), BAD);
        tell(d, 1, 0, 1);
        due("6: below 0", d.takeOff(-1, false), BAD);
        due("6: it is not", d.takeOff(0, false), NO);
        due("6: off", d.takeOff(0, true), 1);
        due("6: it is", d.takeOff(0, true), NO);
        due("6: counts", d.count(2), 1);
        due("6: one more free", d.tellings(3), 2);
        due("6: a term while it is off", d.term(0, 1, 1), 2);
        due("6: back", d.takeOff(0, false), 1);
        due("6: new again", d.sort(0), 0);
        due("6: counts none", d.count(2), 0);
    }

    // 7, 8
    private static void sortsAndMakings() {
        DrawnTold d = withPoints(2);
        int sum = tell(d, 10, 0, 1, 2, 1);
        int x = tell(d, 3, 0, 1);
        int other = tell(d, 7, 2, 1);
        int quarrel = tell(d, 8, 2, 2);
        int nothing = tell(d, 0);
        int never = tell(d, -1);
        due("7: new", d.sort(sum), 0);
        due("7: new", d.sort(x), 0);
        due("7: follows", d.sort(other), 1);
        due("7: quarrels", d.sort(quarrel), 2);
        due("7: 0 is 0", d.sort(nothing), 1);
        due("7: 0 is -1", d.sort(never), 2);
        due("7: none", d.sort(6), BAD);
        due("7: below 0", d.sort(-1), BAD);
        due("8: new", d.madeOf(x), NO);
        due("8: follows", d.madeOf(other), 1 << sum | 1 << x);
        due("8: quarrels", d.madeOf(quarrel), 1 << sum | 1 << x);
        due("8: of none", d.madeOf(nothing), 0);
        due("8: of none", d.madeOf(never), 0);
        due("8: none", d.madeOf(6), BAD);
        due("8: below 0", d.madeOf(LEAST), BAD);
        d.takeOff(x, true);
        due("7: off", d.sort(x), 3);
        due("8: off", d.madeOf(x), NO);
        due("7: now it is new", d.sort(other), 0);
        due("8: of the one ahead alone", d.madeOf(quarrel), 1 << other);
        d.takeOff(other, true);
        due("7: a quarrel ended", d.sort(quarrel), 0);
        d.takeOff(x, false);
        due("7: who comes first is right", d.sort(quarrel), 2);
        // A quarrelling one says nothing to those behind it.
        int behind = tell(d, 4, 2, 1);
        due("7: behind a quarrel", d.sort(behind), 2);
        due("8: never of one that quarrels", d.madeOf(behind), 1 << sum | 1 << x);
    }

    // 9
    private static void tellings() {
        DrawnTold d = withPoints(8);
        due("9: all free", d.tellings(3), 16);
        for (int i = 0; i < 16; i++) {
            tell(d, i, i, 3);
        }
        tell(d, 0, 0, 1, 3, -1);
        tell(d, 1, 3, 1);
        tell(d, 2000, 4, 1, 5, 1, 6, 1, 7, 1);
        d.takeOff(2, true);
        due("9: new", d.tellings(0), 15);
        due("9: follow", d.tellings(1), 1);
        due("9: quarrel", d.tellings(2), 2);
        due("9: free", d.tellings(3), 1);
        due("9: beyond", d.tellings(4), BAD);
        due("9: below 0", d.tellings(-1), BAD);
    }

    // 10
    private static void fixed() {
        DrawnTold d = withPoints(2);
        tell(d, 10, 0, 3, 1, 1);
        due("10: not yet", d.fixed(0), 0);
        fractionIs("10: not touched", d, 0, 1);
        tell(d, 5, 0, 3, 1, -2);
        due("10: fixed", d.fixed(0), 1);
        fractionIs("10: 25 by 9", d, 25, 9);
        due("10: fixed", d.fixed(1), 1);
        fractionIs("10: 5 by 3", d, 5, 3);
        due("10: free", d.fixed(2), 0);
        fractionIs("10: as it was", d, 5, 3);
        due("10: no such number", d.fixed(4), BAD);
        due("10: below 0", d.fixed(-1), BAD);
        tell(d, -7, 2, -3, 0, 1);
        due("10: below 0", d.fixed(2), 1);
        fractionIs("10: (25 by 9 and 7) by 3", d, 88, 27);
    }

    // 11, 12, 13
    private static void questions() {
        DrawnTold d = withPoints(3);
        tell(d, 10, 2, 1, 0, -1);
        due("11: too great", d.question(2001), BAD);
        due("11: too small", d.question(-2001), BAD);
        due("11: edge", d.question(-2000), 1);
        due("13: 0 is -2000", d.holds(), 0);
        due("11: edge", d.question(2000), 1);
        due("11", d.question(10), 1);
        due("12: number of no point", d.ask(6, 1), BAD);
        due("12: times 0", d.ask(0, 0), BAD);
        due("12: times 4", d.ask(0, 4), BAD);
        due("12", d.ask(0, -1), 1);
        due("13: at times", d.holds(), 2);
        due("12: has it", d.ask(0, 2), BAD);
        due("12", d.ask(2, 1), 2);
        due("13: always", d.holds(), 1);
        due("12", d.ask(1, 3), 3);
        due("12", d.ask(3, -3), 4);
        due("12: full", d.ask(4, 1), FULL);
        due("12: bad ahead of full", d.ask(3, 1), BAD);
        due("13: at times", d.holds(), 2);
        tell(d, 1, 1, 3, 3, -3);
        due("13: never", d.holds(), 0);
        due("11: anew", d.question(0), 1);
        due("12: anew", d.ask(0, 1), 1);
        due("13: not told of", d.tellings(0), 2);
    }

    // 14, 15
    private static void nearestAndStrain() {
        DrawnTold d = new DrawnTold();
        d.point(1, 2);
        due("14: as it lies", d.nearest(1), 1);
        fractionIs("14: rough", d, 2, 1);
        due("14: no such number", d.nearest(2), BAD);
        due("14: below 0", d.nearest(-1), BAD);
        due("15", d.strain(), 1);
        fractionIs("15: none", d, 0, 1);
        tell(d, 0, 0, 1, 1, 2);
        // From (1, 2) straight down on x + 2 y = 0: 5 to go along (1, 2), whose square is 5.
        due("14", d.nearest(0), 1);
        fractionIs("14: x", d, 0, 1);
        tell(d, 9, 0, 1, 1, 2);
        due("15: who quarrels does not pull", d.strain(), 1);
        fractionIs("15", d, 5, 1);
        d.takeOff(0, true);
        due("14", d.nearest(0), 1);
        fractionIs("14: (4 by 5) of the way", d, 9, 5);
        due("14", d.nearest(1), 1);
        fractionIs("14: y", d, 18, 5);
        due("15", d.strain(), 1);
        fractionIs("15: 16 by 5", d, 16, 5);
        d.rough(0, -3, -4);
        due("15: rough anew", d.strain(), 1);
        fractionIs("15: 400 by 5", d, 80, 1);
    }

    // 16
    private static void drag() {
        DrawnTold d = withPoints(2);
        tell(d, 10, 2, 1, 0, -1);
        tell(d, 0, 1, 3, 3, 1);
        due("16: x of it", d.drag(0, 50, 8, 0), 1);
        fractionIs("16", d, 50, 1);
        d.drag(0, 50, 8, 2);
        fractionIs("16: what hangs on it", d, 60, 1);
        d.drag(0, 50, 8, 3);
        fractionIs("16: what hangs on its y", d, -24, 1);
        due("16: nothing is told", d.count(1), 2);
        d.nearest(2);
        fractionIs("16: nothing has moved", d, 10, 1);
        int t = tell(d, 7, 0, 1);
        d.drag(1, 50, 8, 2);
        fractionIs("16: x is told otherwise", d, 17, 1);
        d.drag(1, 50, 8, 3);
        fractionIs("16: y goes all the same", d, 8, 1);
        d.drag(1, 50, 8, 1);
        fractionIs("16: and what hangs on it", d, -8, 3);
        d.takeOff(t, true);
        due("16: edge", d.drag(1, 1000, -1000, 3), 1);
        fractionIs("16: edge", d, -1000, 1);
        // x and y told as one: x goes where it is dragged, y then can't
        tell(d, 0, 0, 1, 1, -1);
        d.drag(0, 4, 9, 1);
        fractionIs("16: x first", d, 4, 1);
        due("16: no such point", d.drag(2, 0, 0, 0), BAD);
        due("16: x", d.drag(0, 1001, 0, 0), BAD);
        due("16: y", d.drag(0, 0, -1001, 0), BAD);
        due("16: no such number", d.drag(0, 0, 0, 4), BAD);
        due("16: below 0", d.drag(0, 0, 0, -1), BAD);
    }

    // 17, 18
    private static void signAndLimb() {
        DrawnTold d = withPoints(8);
        due("17: 0", d.sign(0), 0);
        due("17: no limbs", d.sign(1), 0);
        due("17: 1 below", d.sign(2), 1);
        due("17: beyond", d.sign(3), -10);
        due("17: below 0", d.sign(-1), -10);
        due("18: none above", d.limb(0, 0), NONE);
        due("18: 1 below", d.limb(1, 0), 1);
        due("18: beyond", d.limb(1, MOST), NONE);
        due("18: which", d.limb(2, 0), BAD);
        due("18: which below 0", d.limb(-1, 0), BAD);
        due("18: i below 0", d.limb(0, -1), BAD);
        // x of one point, thrice x of the next, and so on: 3^15 is below, then 3^15 times 2000 above
        tell(d, -2000, 0, 1);
        for (int i = 1; i < 16; i++) {
            tell(d, 0, i, 1, i - 1, -3);
        }
        due("17", d.fixed(15), 1);
        fractionIs("17: two limbs above", d, -2000L * 14348907, 1);
        d.takeOff(0, true);
        tell(d, 1000, 15, 3);
        due("17", d.fixed(0), 1);
        fractionIs("17: below", d, 1000, 43046721);
    }

    // 19
    private static void bar() {
        DrawnTold d = withPoints(7);
        due("19: alike", d.bar(3, 3), BAD);
        due("19: no such point", d.bar(0, 7), BAD);
        due("19: no such point", d.bar(-1, 0), BAD);
        int many = 0;
        for (int a = 0; a < 7; a++) {
            for (int b = a + 1; b < 7 && many < 20; b++) {
                due("19: next", d.bar(b, a), many);
                due("19: told", d.bar(b, a), BAD);
                due("19: told the other way", d.bar(a, b), BAD);
                many++;
            }
        }
        due("19: full", d.bar(5, 6), FULL);
        due("19: bad ahead of full", d.bar(0, 1), BAD);
        due("19: alike ahead of full", d.bar(5, 5), BAD);
        due("19: twenty", d.count(3), 20);
    }

    // 20, 21
    private static void sortOfAndBars() {
        DrawnTold d = new DrawnTold();
        due("21: no point", d.bars(2), 0);
        d.point(0, 0);
        due("21: one point", d.bars(2), 0);
        d.point(0, 0);
        due("21: two points", d.bars(2), 1);
        d.point(0, 0);
        d.point(0, 0);
        d.bar(0, 1);
        d.bar(1, 2);
        d.bar(2, 0);
        d.bar(3, 0);
        d.bar(1, 3);
        d.bar(2, 3);
        due("20: new", d.sortOf(4), 0);
        due("20: one too many", d.sortOf(5), 1);
        due("20: none", d.sortOf(6), BAD);
        due("20: below 0", d.sortOf(-1), BAD);
        due("21: new", d.bars(0), 5);
        due("21: too many", d.bars(1), 1);
        due("21: stiff", d.bars(2), 0);
        d.point(0, 0);
        due("21: a point more", d.bars(2), 2);
        due("20: stays", d.sortOf(5), 1);
        due("21: beyond", d.bars(3), BAD);
        due("21: below 0", d.bars(-1), BAD);
    }

    // 22
    private static void round() {
        DrawnTold d = withPoints(5);
        d.bar(3, 4);
        d.bar(0, 1);
        d.bar(1, 2);
        d.bar(2, 0);
        d.bar(3, 0);
        d.bar(1, 3);
        d.bar(2, 3);
        d.bar(4, 2);
        due("22: new", d.round(0), NO);
        due("22: of the four points alone", d.round(6), 62);
        due("22: a new one behind it is not in it", d.round(7), NO);
        due("22: none", d.round(8), BAD);
        due("22: below 0", d.round(-1), BAD);
        d.bar(4, 0);
        due("22: of all", d.round(8), 1 << 0 | 1 << 3 | 1 << 7 | 62);
        due("22: as it was", d.round(6), 62);
    }

    // 23, 24
    private static void keptAndPiece() {
        DrawnTold d = withPoints(6);
        d.bar(0, 1);
        d.bar(1, 2);
        due("23: not kept", d.kept(0, 2), 0);
        due("24: not kept", d.piece(0, 2), NO);
        d.bar(0, 2);
        d.bar(2, 3);
        d.bar(3, 4);
        d.bar(4, 2);
        due("23: by a bar", d.kept(2, 3), 1);
        due("23: two triangles turn about one point", d.kept(0, 3), 0);
        due("24: one triangle", d.piece(1, 0), 7);
        due("24: the other", d.piece(3, 4), 28);
        due("24: at the point of both", d.piece(2, 4), 28);
        due("23: a lone point", d.kept(5, 0), 0);
        d.bar(0, 3);
        due("23: now stiff", d.kept(1, 4), 1);
        due("24: all five", d.piece(1, 4), 31);
        due("23: alike", d.kept(1, 1), BAD);
        due("24: alike", d.piece(1, 1), BAD);
        due("23: no such point", d.kept(0, 6), BAD);
        due("24: no such point", d.piece(6, 0), BAD);
        due("23: below 0", d.kept(-1, 0), BAD);
        due("24: below 0", d.piece(0, -1), BAD);
    }

    // 25
    private static void fixes() {
        DrawnTold d = withPoints(4);
        due("25: all", d.fixes(NONE), 6);
        d.bar(2, 1);
        due("25: one less", d.fixes(NONE), 5);
        int[] pairs = {1, 2, 3, 13, 23};
        for (int i = 0; i < 5; i++) {
            due("25: the " + i, d.fixes(i), pairs[i]);
        }
        due("25: not so many", d.fixes(5), -5);
        due("25: not so many", d.fixes(MOST), -5);
        due("25: bad", d.fixes(-2), -10);
        due("25: bad", d.fixes(LEAST), -10);
    }

    // 26, 27
    private static void orderAndWhole() {
        DrawnTold d = withPoints(6);
        int[] plain = {0, 1, 2, 3, 4, 5};
        orderIs(d, plain);
        due("26: below 0", d.order(-1), BAD);
        due("26: least", d.order(LEAST), BAD);
        due("26: beyond", d.order(6), NONE);
        // 5 is held by three, so 4 goes ahead of it
        d.bar(5, 0);
        d.bar(5, 1);
        d.bar(5, 4);
        orderIs(d, new int[] {0, 1, 2, 3, 5, 4});
        due("27: all can go", d.whole(), 0);
        // three wells and three houses: each point has three, none can go
        DrawnTold wells = withPoints(7);
        for (int a = 0; a < 3; a++) {
            for (int b = 3; b < 6; b++) {
                wells.bar(a, b);
            }
        }
        due("27: stiff", wells.bars(2), 2);
        due("27: none can go", wells.whole(), 63);
        orderIs(wells, new int[] {0, 1, 2, 3, 4, 5, 6});
        wells.bar(6, 0);
        wells.bar(6, 1);
        due("27: the seventh goes", wells.whole(), 63);
        wells.bar(6, 2);
        due("27: one too many does not hold it", wells.whole(), 63);
        // Those that are left come by number, then those that went.
        DrawnTold mixed = withPoints(8);
        for (int a = 1; a < 4; a++) {
            for (int b = 5; b < 8; b++) {
                mixed.bar(a, b);
            }
        }
        due("27: without 0 and 4", mixed.whole(), 0xEE);
        orderIs(mixed, new int[] {1, 2, 3, 5, 6, 7, 0, 4});
        DrawnTold two = withPoints(2);
        orderIs(two, new int[] {0, 1});
        due("27: two are not whole", two.whole(), 0);
    }

    private static void orderIs(DrawnTold d, int[] points) {
        for (int i = 0; i < points.length; i++) {
            due("26: order " + i, d.order(i), points[i]);
        }
        due("26: no more", d.order(points.length), NONE);
    }

    // 28
    private static void count() {
        DrawnTold d = withPoints(3);
        d.telling(1);
        d.telling(2);
        d.takeOff(1, true);
        d.bar(0, 1);
        due("28: points", d.count(0), 3);
        due("28: tellings", d.count(1), 2);
        due("28: taken off", d.count(2), 1);
        due("28: bars", d.count(3), 1);
        due("28: beyond", d.count(4), BAD);
        due("28: below 0", d.count(-1), BAD);
    }

    // 29
    private static void digest() {
        due("29: nothing", new DrawnTold().digest(), hash(0, 0, 0, 0, 0, 0, 0, 0, 0, 1, 1));
        DrawnTold d = new DrawnTold();
        d.point(1, 2);
        d.point(3, -4);
        tell(d, 6, 2, 3, 1, -1);
        tell(d, 7);
        d.takeOff(1, true);
        d.question(-5);
        d.ask(3, 2);
        d.bar(1, 0);
        d.strain();
        // 9 - 2 is 7, 1 too many, along (-1, 3): 1 by 10
        due("29: all", d.digest(), hash(2, 2, 1, 1, 1, 2, 3, -4, 6, 2, 2, 3, 1, -1, 0, 7, 0, 3, -5, 1, 3, 2, 1, 0, 0,
            0, 1, 1, 1, 1, 10));
        due("29: changes nothing", d.digest(), d.digest());
    }

    private static long hash(int... values) {
        long h = 409;
        for (int v : values) {
            h = 31 * h + v;
        }
        return h;
    }

    private static void refusedChangesNothing() {
        DrawnTold d = withPoints(8);
        for (int i = 0; i < 20; i++) {
            tell(d, i, i % 16, 1, (i + 1) % 16, 2, (i + 2) % 16, 3, (i + 3) % 16, -1);
        }
        d.nearest(3);
        d.question(3);
        for (int i = 0; i < 4; i++) {
            d.ask(i, 1);
        }
        for (int a = 0; a < 8; a++) {
            for (int b = a + 1; b < 8; b++) {
                d.bar(a, b);
            }
        }
        long before = d.digest();
        due("refused", d.point(0, 0), FULL);
        due("refused", d.rough(8, 0, 0), BAD);
        due("refused", d.rough(0, 5, 2000), BAD);
        due("refused", d.telling(0), FULL);
        due("refused", d.term(0, 15, 1), FULL);
        due("refused", d.term(0, 0, 1), BAD);
        due("refused", d.takeOff(0, false), NO);
        due("refused", d.question(MOST), BAD);
        due("refused", d.ask(5, 1), FULL);
        due("refused", d.fixed(16), BAD);
        due("refused", d.nearest(16), BAD);
        due("refused", d.drag(0, 0, 0, 16), BAD);
        due("refused", d.bar(6, 7), FULL);
        due("refused", d.bar(0, 1), BAD);
        due("refused: nothing has changed", d.digest(), before);
    }
}
