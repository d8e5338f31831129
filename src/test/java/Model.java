import java.math.BigInteger;
import java.util.ArrayList;
import java.util.List;

/**
 * The document's words done as they stand and as slowly as they come: fractions of long
 * numbers, every part of a set of bars. It shares no way of reckoning with DrawnTold.
 */
final class Model {
    static final int NONE = -1, BAD = -2, NO = -3, FULL = -4;

    static final class Told {
        int n;
        boolean off;
        final List<int[]> terms = new ArrayList<>();

        boolean has(int number) {
            return terms.stream().anyMatch(t -> t[0] == number);
        }

        /** The factors of all 16 numbers. */
        Ratio[] row() {
            Ratio[] row = new Ratio[16];
            java.util.Arrays.fill(row, Ratio.ZERO);
            for (int[] t : terms) {
                row[t[0]] = Ratio.of(t[1]);
            }
            return row;
        }
    }

    private final List<int[]> points = new ArrayList<>();
    private final List<Told> told = new ArrayList<>();
    private final List<int[]> barList = new ArrayList<>();
    private final Told asked = new Told();
    Ratio fraction = Ratio.ZERO;

    private static boolean within(int value, int most) {
        return value >= -most && value <= most;
    }

    private boolean isPoint(int p) {
        return p >= 0 && p < points.size();
    }

    private boolean isNumber(int n) {
        return n >= 0 && n < 2 * points.size();
    }

    private boolean isTold(int t) {
        return t >= 0 && t < told.size();
    }

    int point(int x, int y) {
        if (!within(x, 1000) || !within(y, 1000)) return BAD;
        if (points.size() == 8) return FULL;
        points.add(new int[] {x, y});
        return points.size() - 1;
    }

    int rough(int point, int x, int y) {
        if (!isPoint(point) || !within(x, 1000) || !within(y, 1000)) return BAD;
        points.set(point, new int[] {x, y});
        return 1;
    }

    int telling(int n) {
        if (!within(n, 2000)) return BAD;
        if (told.size() == 20) return FULL;
        Told t = new Told();
        t.n = n;
        told.add(t);
        return told.size() - 1;
    }

    private int addTerm(Told t, int number, int times) {
        if (!isNumber(number) || !within(times, 3) || times == 0 || t.has(number)) return BAD;
        if (t.terms.size() == 4) return FULL;
        t.terms.add(new int[] {number, times});
        return t.terms.size();
    }

    int term(int telling, int number, int times) {
        return isTold(telling) ? addTerm(told.get(telling), number, times) : BAD;
    }

    int takeOff(int telling, boolean is) {
        if (!isTold(telling)) return BAD;
        if (told.get(telling).off == is) return NO;
        told.get(telling).off = is;
        return 1;
    }

    // ---- straight tellings

    /** The one way to make the row of others that are free of one another; null: there is none. */
    private static Ratio[] makings(List<Told> free, Ratio[] row) {
        int size = free.size();
        Ratio[][] table = new Ratio[16][size + 1];
        for (int c = 0; c < 16; c++) {
            for (int i = 0; i < size; i++) {
                table[c][i] = free.get(i).row()[c];
            }
            table[c][size] = row[c];
        }
        return solve(table, size);
    }

    /** Solves for as many unknowns (each must be determined); null: no way. */
    private static Ratio[] solve(Ratio[][] table, int unknowns) {
        for (int c = 0; c < unknowns; c++) {
            int r = c;
            while (table[r][c].isZero()) r++;
            Ratio[] swap = table[r];
            table[r] = table[c];
            table[c] = swap;
            Ratio lead = table[c][c];
            for (int k = c; k <= unknowns; k++) table[c][k] = table[c][k].by(lead);
            for (int i = 0; i < table.length; i++) {
                Ratio f = table[i][c];
                if (i != c && !f.isZero()) {
                    for (int k = c; k <= unknowns; k++) table[i][k] = table[i][k].minus(f.times(table[c][k]));
                }
            }
        }
        for (int i = unknowns; i < table.length; i++) {
            if (!table[i][unknowns].isZero()) return null;
        }
        Ratio[] answer = new Ratio[unknowns];
        for (int i = 0; i < unknowns; i++) answer[i] = table[i][unknowns];
        return answer;
    }

    private static int sortBehind(List<Told> free, Told t) {
        Ratio[] makings = makings(free, t.row());
        if (makings == null) return 0;
        Ratio sum = Ratio.ZERO;
        for (int i = 0; i < makings.length; i++) sum = sum.plus(makings[i].times(Ratio.of(free.get(i).n)));
        return sum.minus(Ratio.of(t.n)).isZero() ? 1 : 2;
    }

    /** The new ones among the first so many tellings. */
    private List<Told> newAhead(int end) {
        List<Told> free = new ArrayList<>();
        for (int t = 0; t < end; t++) {
            if (!told.get(t).off && sortBehind(free, told.get(t)) == 0) free.add(told.get(t));
        }
        return free;
    }

    /** Of all, one by one. */
    private int[] sorts() {
        int[] sorts = new int[told.size()];
        List<Told> free = new ArrayList<>();
        for (int t = 0; t < sorts.length; t++) {
            sorts[t] = told.get(t).off ? 3 : sortBehind(free, told.get(t));
            if (sorts[t] == 0) free.add(told.get(t));
        }
        return sorts;
    }

    int sort(int telling) {
        return isTold(telling) ? sorts()[telling] : BAD;
    }

    int madeOf(int telling) {
        if (!isTold(telling)) return BAD;
        int sort = sort(telling);
        if (sort == 0 || sort == 3) return NO;
        List<Told> free = newAhead(telling);
        Ratio[] makings = makings(free, told.get(telling).row());
        int bits = 0;
        for (int i = 0; i < makings.length; i++) {
            if (!makings[i].isZero()) bits |= 1 << told.indexOf(free.get(i));
        }
        return bits;
    }

    int tellings(int what) {
        if (what < 0 || what > 3) return BAD;
        if (what == 3) return 2 * points.size() - newAhead(told.size()).size();
        int many = 0;
        for (int sort : sorts()) {
            if (sort == what) many++;
        }
        return many;
    }

    private static Told unit(int number, int n) {
        Told t = new Told();
        t.n = n;
        t.terms.add(new int[] {number, 1});
        return t;
    }

    int fixed(int number) {
        if (!isNumber(number)) return BAD;
        List<Told> free = newAhead(told.size());
        Ratio[] makings = makings(free, unit(number, 0).row());
        if (makings == null) return 0;
        Ratio sum = Ratio.ZERO;
        for (int i = 0; i < makings.length; i++) sum = sum.plus(makings[i].times(Ratio.of(free.get(i).n)));
        fraction = sum;
        return 1;
    }

    int question(int n) {
        if (!within(n, 2000)) return BAD;
        asked.n = n;
        asked.terms.clear();
        return 1;
    }

    int ask(int number, int times) {
        return addTerm(asked, number, times);
    }

    int holds() {
        return new int[] {2, 1, 0}[sortBehind(newAhead(told.size()), asked)];
    }

    /** Where the way back to the rough place stands upright on all that is free: all at once, x and the pulls. */
    private Ratio[] places(List<Told> free) {
        int numbers = 2 * points.size();
        int size = numbers + free.size();
        Ratio[][] table = new Ratio[size][size + 1];
        for (Ratio[] line : table) java.util.Arrays.fill(line, Ratio.ZERO);
        for (int c = 0; c < numbers; c++) {
            table[c][c] = Ratio.of(1);
            table[c][size] = Ratio.of(points.get(c / 2)[c % 2]);
        }
        for (int i = 0; i < free.size(); i++) {
            for (int[] t : free.get(i).terms) {
                table[t[0]][numbers + i] = Ratio.of(t[1]);
                table[numbers + i][t[0]] = Ratio.of(t[1]);
            }
            table[numbers + i][size] = Ratio.of(free.get(i).n);
        }
        return solve(table, size);
    }

    int nearest(int number) {
        if (!isNumber(number)) return BAD;
        fraction = places(newAhead(told.size()))[number];
        return 1;
    }

    int strain() {
        Ratio[] places = places(newAhead(told.size()));
        Ratio sum = Ratio.ZERO;
        for (int c = 0; c < 2 * points.size(); c++) {
            Ratio way = places[c].minus(Ratio.of(points.get(c / 2)[c % 2]));
            sum = sum.plus(way.times(way));
        }
        fraction = sum;
        return 1;
    }

    int drag(int point, int x, int y, int number) {
        if (!isPoint(point) || !within(x, 1000) || !within(y, 1000) || !isNumber(number)) return BAD;
        List<Told> free = newAhead(told.size());
        for (int i = 0; i < 2; i++) {
            Told hand = unit(2 * point + i, i == 0 ? x : y);
            if (sortBehind(free, hand) == 0) free.add(hand);
        }
        fraction = places(free)[number];
        return 1;
    }

    private static List<Integer> limbs(BigInteger value) {
        List<Integer> limbs = new ArrayList<>();
        for (BigInteger v = value.abs(); v.signum() != 0; v = v.shiftRight(30)) {
            limbs.add(v.mod(BigInteger.ONE.shiftLeft(30)).intValue());
        }
        return limbs;
    }

    int sign(int what) {
        if (what == 0) return fraction.above.signum();
        if (what == 1) return limbs(fraction.above).size();
        return what == 2 ? limbs(fraction.below).size() : -10;
    }

    int limb(int which, int i) {
        if (which < 0 || which > 1 || i < 0) return BAD;
        List<Integer> limbs = limbs(which == 0 ? fraction.above : fraction.below);
        return i < limbs.size() ? limbs.get(i) : NONE;
    }

    // ---- bars

    private static boolean same(int[] bar, int a, int b) {
        return bar[0] == a && bar[1] == b || bar[0] == b && bar[1] == a;
    }

    int bar(int a, int b) {
        if (!isPoint(a) || !isPoint(b) || a == b) return BAD;
        if (barList.stream().anyMatch(bar -> same(bar, a, b))) return BAD;
        if (barList.size() == 20) return FULL;
        barList.add(new int[] {a, b});
        return barList.size() - 1;
    }

    /** Of an independent set with one more: every part that has the one more is looked at. */
    private static boolean independent(List<int[]> set, int[] more) {
        return partsAreFew(set, 0, 1 << more[0] | 1 << more[1], 1);
    }

    private static boolean partsAreFew(List<int[]> set, int at, int ends, int size) {
        if (size > 2 * Integer.bitCount(ends) - 3) return false;
        if (at == set.size()) return true;
        int[] next = set.get(at);
        return partsAreFew(set, at + 1, ends | 1 << next[0] | 1 << next[1], size + 1)
            && partsAreFew(set, at + 1, ends, size);
    }

    private List<int[]> newBars(int end) {
        List<int[]> set = new ArrayList<>();
        for (int i = 0; i < end; i++) {
            if (independent(set, barList.get(i))) set.add(barList.get(i));
        }
        return set;
    }

    int sortOf(int bar) {
        if (bar < 0 || bar >= barList.size()) return BAD;
        return independent(newBars(bar), barList.get(bar)) ? 0 : 1;
    }

    int bars(int what) {
        if (what < 0 || what > 2) return BAD;
        int many = newBars(barList.size()).size();
        if (what == 0) return many;
        if (what == 1) return barList.size() - many;
        return points.size() < 2 ? 0 : 2 * points.size() - 3 - many;
    }

    int round(int bar) {
        int sort = sortOf(bar);
        if (sort != 1) return sort == 0 ? NO : BAD;
        List<int[]> set = newBars(barList.size());
        int bits = 0;
        for (int[] without : set) {
            List<int[]> others = new ArrayList<>(set);
            others.remove(without);
            if (independent(others, barList.get(bar))) bits |= 1 << barList.indexOf(without);
        }
        return bits;
    }

    private boolean isKept(List<int[]> set, int a, int b) {
        return barList.stream().anyMatch(bar -> same(bar, a, b)) || !independent(set, new int[] {a, b});
    }

    int kept(int a, int b) {
        if (!isPoint(a) || !isPoint(b) || a == b) return BAD;
        return isKept(newBars(barList.size()), a, b) ? 1 : 0;
    }

    int piece(int a, int b) {
        int kept = kept(a, b);
        if (kept != 1) return kept == 0 ? NO : BAD;
        List<int[]> set = newBars(barList.size());
        int bits = 1 << a | 1 << b;
        for (int p = 0; p < points.size(); p++) {
            if (p != a && p != b && isKept(set, p, a) && isKept(set, p, b)) bits |= 1 << p;
        }
        return bits;
    }

    int fixes(int what) {
        if (what < -1) return -10;
        List<int[]> set = newBars(barList.size());
        List<Integer> pairs = new ArrayList<>();
        for (int a = 0; a < points.size(); a++) {
            for (int b = a + 1; b < points.size(); b++) {
                if (!isKept(set, a, b)) pairs.add(10 * a + b);
            }
        }
        if (what == -1) return pairs.size();
        return what < pairs.size() ? pairs.get(what) : -5;
    }

    /** Those that are left, by taking off; gone gets the others, the last that went off first. */
    private List<Integer> leave(List<Integer> gone) {
        List<int[]> set = newBars(barList.size());
        List<Integer> left = new ArrayList<>();
        for (int p = 0; p < points.size(); p++) left.add(p);
        boolean went = true;
        while (went && left.size() > 2) {
            went = false;
            for (int i = left.size() - 1; i >= 0 && !went; i--) {
                int p = left.get(i);
                long many = set.stream().filter(bar -> bar[0] == p && left.contains(bar[1])
                    || bar[1] == p && left.contains(bar[0])).count();
                if (many <= 2) {
                    left.remove(i);
                    gone.add(0, p);
                    went = true;
                }
            }
        }
        return left;
    }

    int order(int i) {
        if (i < 0) return BAD;
        List<Integer> gone = new ArrayList<>();
        List<Integer> all = leave(gone);
        all.addAll(gone);
        return i < all.size() ? all.get(i) : NONE;
    }

    int whole() {
        List<Integer> left = leave(new ArrayList<>());
        return left.size() <= 2 ? 0 : left.stream().mapToInt(p -> 1 << p).sum();
    }

    int count(int what) {
        if (what == 0) return points.size();
        if (what == 1) return told.size();
        if (what == 2) return (int) told.stream().filter(t -> t.off).count();
        return what == 3 ? barList.size() : BAD;
    }

    long digest() {
        List<Integer> values = new ArrayList<>();
        for (int what = 0; what < 4; what++) values.add(count(what));
        for (int[] p : points) {
            values.add(p[0]);
            values.add(p[1]);
        }
        int[] sorts = sorts();
        for (int t = 0; t < told.size(); t++) {
            listSum(told.get(t), values);
            values.add(sorts[t]);
        }
        listSum(asked, values);
        List<int[]> newBars = newBars(barList.size());
        for (int[] bar : barList) {
            values.add(bar[0]);
            values.add(bar[1]);
            values.add(newBars.contains(bar) ? 0 : 1);
        }
        values.add(whole());
        for (int what = 0; what < 3; what++) values.add(sign(what));
        values.addAll(limbs(fraction.above));
        values.addAll(limbs(fraction.below));
        long h = 409;
        for (int v : values) h = 31 * h + v;
        return h;
    }

    private static void listSum(Told t, List<Integer> values) {
        values.add(t.n);
        values.add(t.terms.size());
        for (int[] term : t.terms) {
            values.add(term[0]);
            values.add(term[1]);
        }
    }
}
