/**
 * Points put down roughly, then told what they must be: straight tellings by exact
 * fractions, and bars between the points by counting alone.
 */
public final class DrawnTold {
    public static final int NONE = -1, BAD = -2, NO = -3, FULL = -4;

    private static final int MOST_POINTS = 8;
    private static final int MOST_NUMBERS = 2 * MOST_POINTS;
    private static final int MOST_TELLINGS = 20;
    private static final int MOST_TERMS = 4;
    private static final int MOST_TIMES = 3;
    private static final int MOST_BARS = 20;
    private static final int FARTHEST = 1000;
    private static final int GREATEST_SUM = 2000;

    private static final int NEW = 0;
    private static final int FOLLOWS = 1;
    private static final int QUARRELS = 2;
    private static final int OFF = 3;

    private static final int NEVER = 0;
    private static final int ALWAYS = 1;
    private static final int AT_TIMES = 2;

    // Where BAD's own number could be mistaken for an answer, the document names others.
    private static final int BAD_APART = -10;
    private static final int NO_SUCH_FIX = -5;

    /**
     * The greatest primes below 2^31, so that a product of two remainders fits a long.
     * Why these are enough is said at Judge (three of them) and at Balance (four of six).
     */
    private static final long[] PRIMES = {
        2147483647L, 2147483629L, 2147483587L, 2147483579L, 2147483563L, 2147483549L
    };

    private final int[] roughs = new int[MOST_NUMBERS];
    private int pointCount;
    private final Sum[] sums = new Sum[MOST_TELLINGS];
    private int sumCount;
    private final Sum asked = new Sum();
    private final Sum probe = new Sum();
    private final Judge judge = new Judge();
    private final Balance balance = new Balance();
    private final Fraction fraction = new Fraction();
    private final Frame frame = new Frame();

    public DrawnTold() {
        for (int i = 0; i < MOST_TELLINGS; i++) {
            sums[i] = new Sum();
        }
    }

    // ---- points, tellings

    public int point(int x, int y) {
        if (!isPlace(x, y)) {
            return BAD;
        }
        if (pointCount >= MOST_POINTS) {
            return FULL;
        }
        putRough(pointCount, x, y);
        pointCount++;
        return pointCount - 1;
    }

    public int rough(int point, int x, int y) {
        if (!isPoint(point) || !isPlace(x, y)) {
            return BAD;
        }
        putRough(point, x, y);
        return 1;
    }

    public int telling(int n) {
        if (!isTotal(n)) {
            return BAD;
        }
        if (sumCount >= MOST_TELLINGS) {
            return FULL;
        }
        sums[sumCount].restart(n);
        sumCount++;
        return sumCount - 1;
    }

    public int term(int telling, int number, int times) {
        if (!isTelling(telling)) {
            return BAD;
        }
        int answer = putTerm(sums[telling], number, times);
        if (answer > 0) {
            judge.forgetFrom(telling);
        }
        return answer;
    }

    public int takeOff(int telling, boolean is) {
        if (!isTelling(telling)) {
            return BAD;
        }
        if (sums[telling].off == is) {
            return NO;
        }
        sums[telling].off = is;
        judge.forgetFrom(telling);
        return 1;
    }

    public int sort(int telling) {
        if (!isTelling(telling)) {
            return BAD;
        }
        judge.judgeUpTo(sums, sumCount);
        return judge.verdicts[telling];
    }

    public int madeOf(int telling) {
        if (!isTelling(telling)) {
            return BAD;
        }
        judge.judgeUpTo(sums, sumCount);
        int verdict = judge.verdicts[telling];
        if (verdict != FOLLOWS && verdict != QUARRELS) {
            return NO;
        }
        return judge.parts[telling];
    }

    public int tellings(int what) {
        if (what < 0 || what > 3) {
            return BAD;
        }
        judge.judgeUpTo(sums, sumCount);
        if (what == 3) {
            return 2 * pointCount - judge.rank;
        }
        return judge.howMany(what);
    }

    // ---- places

    public int fixed(int number) {
        if (!isNumber(number)) {
            return BAD;
        }
        judge.judgeUpTo(sums, sumCount);
        probe.restart(0);
        probe.put(number, 1);
        if (judge.weigh(probe) == NEW) {
            return 0;
        }
        // What is the same in all places is what it is in the nearest ones.
        gatherHeld();
        findNearest(number);
        return 1;
    }

    public int question(int n) {
        if (!isTotal(n)) {
            return BAD;
        }
        asked.restart(n);
        return 1;
    }

    public int ask(int number, int times) {
        return putTerm(asked, number, times);
    }

    public int holds() {
        judge.judgeUpTo(sums, sumCount);
        int verdict = judge.weigh(asked);
        if (verdict == NEW) {
            return AT_TIMES;
        }
        return verdict == FOLLOWS ? ALWAYS : NEVER;
    }

    public int nearest(int number) {
        if (!isNumber(number)) {
            return BAD;
        }
        judge.judgeUpTo(sums, sumCount);
        gatherHeld();
        findNearest(number);
        return 1;
    }

    public int strain() {
        judge.judgeUpTo(sums, sumCount);
        gatherHeld();
        balance.aimAtStrain();
        balance.settle(fraction);
        return 1;
    }

    public int drag(int point, int x, int y, int number) {
        if (!isPoint(point) || !isPlace(x, y) || !isNumber(number)) {
            return BAD;
        }
        judge.judgeUpTo(sums, sumCount);
        int rank = judge.rank;
        gatherHeld();
        tellByHand(2 * point, x);
        tellByHand(2 * point + 1, y);
        judge.shrinkTo(rank);
        findNearest(number);
        return 1;
    }

    public int sign(int what) {
        switch (what) {
            case 0:
                return fraction.side;
            case 1:
                return Limbs.used(fraction.above);
            case 2:
                return Limbs.used(fraction.below);
            default:
                return BAD_APART;
        }
    }

    public int limb(int which, int i) {
        if (which < 0 || which > 1 || i < 0) {
            return BAD;
        }
        long[] limbs = which == 0 ? fraction.above : fraction.below;
        if (i >= Limbs.used(limbs) || i >= limbs.length) {
            return NONE;
        }
        return (int) limbs[i];
    }

    // ---- bars

    public int bar(int a, int b) {
        if (!isPair(a, b) || frame.hasBar(a, b)) {
            return BAD;
        }
        if (frame.size >= MOST_BARS) {
            return FULL;
        }
        frame.add(a, b);
        return frame.size - 1;
    }

    public int sortOf(int bar) {
        if (!isBar(bar)) {
            return BAD;
        }
        return frame.extra[bar] ? 1 : 0;
    }

    public int bars(int what) {
        switch (what) {
            case 0:
                return frame.newCount;
            case 1:
                return frame.size - frame.newCount;
            case 2:
                return pointCount < 2 ? 0 : 2 * pointCount - 3 - frame.newCount;
            default:
                return BAD;
        }
    }

    public int round(int bar) {
        if (!isBar(bar)) {
            return BAD;
        }
        if (!frame.extra[bar]) {
            return NO;
        }
        return frame.ringOf(bar);
    }

    public int kept(int a, int b) {
        if (!isPair(a, b)) {
            return BAD;
        }
        return frame.keeps(a, b) ? 1 : 0;
    }

    public int piece(int a, int b) {
        if (!isPair(a, b)) {
            return BAD;
        }
        if (!frame.keeps(a, b)) {
            return NO;
        }
        int bits = 1 << a | 1 << b;
        for (int p = 0; p < pointCount; p++) {
            if (p != a && p != b && frame.keeps(p, a) && frame.keeps(p, b)) {
                bits |= 1 << p;
            }
        }
        return bits;
    }

    public int fixes(int what) {
        if (what < NONE) {
            return BAD_APART;
        }
        int found = 0;
        for (int a = 0; a < pointCount; a++) {
            for (int b = a + 1; b < pointCount; b++) {
                if (!frame.keeps(a, b)) {
                    if (found == what) {
                        return 10 * a + b;
                    }
                    found++;
                }
            }
        }
        return what == NONE ? found : NO_SUCH_FIX;
    }

    public int order(int i) {
        if (i < 0) {
            return BAD;
        }
        if (i >= pointCount || i >= MOST_POINTS) {
            return NONE;
        }
        frame.build(pointCount);
        return frame.built[i];
    }

    public int whole() {
        int left = frame.build(pointCount);
        return Integer.bitCount(left) > 2 ? left : 0;
    }

    public int count(int what) {
        switch (what) {
            case 0:
                return pointCount;
            case 1:
                return sumCount;
            case 2:
                return howManyOff();
            case 3:
                return frame.size;
            default:
                return BAD;
        }
    }

    public long digest() {
        judge.judgeUpTo(sums, sumCount);
        long h = 409;
        for (int what = 0; what < 4; what++) {
            h = 31 * h + count(what);
        }
        for (int number = 0; number < 2 * pointCount; number++) {
            h = 31 * h + roughs[number];
        }
        for (int t = 0; t < sumCount; t++) {
            h = 31 * sums[t].digestOnto(h) + judge.verdicts[t];
        }
        h = frame.digestOnto(asked.digestOnto(h));
        h = 31 * h + whole();
        return fraction.digestOnto(h);
    }

    // ---- what the calls share

    private static boolean isWithin(int value, int most) {
        return value >= -most && value <= most;
    }

    private static boolean isPlace(int x, int y) {
        return isWithin(x, FARTHEST) && isWithin(y, FARTHEST);
    }

    private static boolean isTotal(int n) {
        return isWithin(n, GREATEST_SUM);
    }

    private boolean isPoint(int point) {
        return point >= 0 && point < pointCount;
    }

    private boolean isPair(int a, int b) {
        return isPoint(a) && isPoint(b) && a != b;
    }

    private boolean isNumber(int number) {
        return number >= 0 && number < 2 * pointCount;
    }

    private boolean isTelling(int telling) {
        return telling >= 0 && telling < sumCount;
    }

    private boolean isBar(int bar) {
        return bar >= 0 && bar < frame.size;
    }

    private void putRough(int point, int x, int y) {
        roughs[2 * point] = x;
        roughs[2 * point + 1] = y;
    }

    private int putTerm(Sum sum, int number, int times) {
        if (!isNumber(number) || times == 0 || !isWithin(times, MOST_TIMES) || sum.timesOf(number) != 0) {
            return BAD;
        }
        if (sum.size >= MOST_TERMS) {
            return FULL;
        }
        sum.put(number, times);
        return sum.size;
    }

    private int howManyOff() {
        int many = 0;
        for (int t = 0; t < sumCount; t++) {
            if (sums[t].off) {
                many++;
            }
        }
        return many;
    }

    /** Only the new ones: what follows from them bounds the places no further. */
    private void gatherHeld() {
        balance.clear();
        for (int t = 0; t < sumCount; t++) {
            if (judge.verdicts[t] == NEW) {
                balance.add(sums[t], roughs);
            }
        }
    }

    private void tellByHand(int number, int value) {
        probe.restart(value);
        probe.put(number, 1);
        if (judge.weigh(probe) == NEW) {
            judge.adopt();
            balance.add(probe, roughs);
        }
    }

    private void findNearest(int number) {
        balance.aimAt(number, roughs[number]);
        balance.settle(fraction);
    }

    /** A sum of terms that is told, or asked, to be a number. */
    private static final class Sum {
        int total;
        int size;
        boolean off;
        final int[] numbers = new int[MOST_TERMS];
        final int[] factors = new int[MOST_TERMS];

        void restart(int n) {
            total = n;
            size = 0;
        }

        /** 0: it has no such term. */
        int timesOf(int number) {
            for (int i = 0; i < size; i++) {
                if (numbers[i] == number) {
                    return factors[i];
                }
            }
            return 0;
        }

        void put(int number, int times) {
            if (size < MOST_TERMS) {
                numbers[size] = number;
                factors[size] = times;
                size++;
            }
        }

        long digestOnto(long h) {
            long next = 31 * (31 * h + total) + size;
            for (int i = 0; i < size; i++) {
                next = 31 * (31 * next + numbers[i]) + factors[i];
            }
            return next;
        }
    }

    /** Reckoning with remainders by a prime. */
    private static final class Clock {
        static long remainder(long value, long prime) {
            if (prime < 2) {
                return 0;
            }
            long rest = value % prime;
            return rest < 0 ? rest + prime : rest;
        }

        /** By Euclid's way; its steps are fewer than twice the bits of a prime. */
        static long inverse(long value, long prime) {
            long older = prime;
            long newer = value;
            long olderTimes = 0;
            long newerTimes = 1;
            for (int step = 0; step < 64 && newer > 0; step++) {
                long quotient = older / newer;
                long rest = older - quotient * newer;
                long restTimes = olderTimes - quotient * newerTimes;
                older = newer;
                newer = rest;
                olderTimes = newerTimes;
                newerTimes = restTimes;
            }
            return olderTimes < 0 ? olderTimes + prime : olderTimes;
        }

        /** Adds other, times a factor, to row, in the columns from first to before end. */
        static void addTimes(long[] row, long[] other, long factor, long prime, int first, int end) {
            if (prime < 2 || first < 0 || end > row.length || end > other.length) {
                return;
            }
            for (int c = first; c < end; c++) {
                row[c] = (row[c] + factor * other[c]) % prime;
            }
        }
    }

    /**
     * Looks at tellings by remainders of one prime alone: what it sees as not 0 is not 0,
     * but what it sees as 0 may be a multiple of its prime. A row: the factors of the
     * numbers, what they sum to, and of which new ones (as they came) the row is made.
     */
    private static final class Witness {
        private static final int TOTAL = MOST_NUMBERS;
        private static final int MAKINGS = TOTAL + 1;
        private static final int WIDTH = MAKINGS + MOST_NUMBERS;
        private static final int NOT_BLIND = MOST_NUMBERS;

        final long prime;
        final long[][] rows = new long[MOST_NUMBERS][WIDTH];
        final int[] leads = new int[MOST_NUMBERS];
        int rank;
        int blindAt = NOT_BLIND;
        final long[] row = new long[WIDTH];
        int lead;

        Witness(long prime) {
            this.prime = prime;
        }

        /** To it the new ones are no longer free of one another: it can say nothing. */
        boolean isBlind() {
            return blindAt < rank;
        }

        /** The sort of a sum behind the new ones; the row that is left of it stays at hand. */
        int look(Sum sum) {
            load(sum);
            for (int i = 0; i < rank; i++) {
                long factor = row[leads[i]];
                if (factor != 0) {
                    Clock.addTimes(row, rows[i], prime - factor, prime, 0, MAKINGS + i + 1);
                }
            }
            lead = findLead();
            if (lead != NONE) {
                return NEW;
            }
            return row[TOTAL] == 0 ? FOLLOWS : QUARRELS;
        }

        private void load(Sum sum) {
            for (int c = 0; c < WIDTH; c++) {
                row[c] = 0;
            }
            for (int i = 0; i < sum.size; i++) {
                row[sum.numbers[i]] = Clock.remainder(sum.factors[i], prime);
            }
            row[TOTAL] = Clock.remainder(sum.total, prime);
        }

        private int findLead() {
            for (int c = 0; c < TOTAL; c++) {
                if (row[c] != 0) {
                    return c;
                }
            }
            return NONE;
        }

        /** The sum it looked at last is new, be it that others saw it. */
        void adopt() {
            if (rank >= MOST_NUMBERS) {
                return;
            }
            if (!isBlind()) {
                if (lead == NONE) {
                    blindAt = rank;
                } else {
                    keepRow();
                }
            }
            rank++;
        }

        private void keepRow() {
            row[MAKINGS + rank] = 1;
            long scale = Clock.inverse(row[lead], prime);
            for (int c = 0; c < WIDTH; c++) {
                rows[rank][c] = Clock.remainder(row[c] * scale, prime);
            }
            leads[rank] = lead;
        }

        void shrinkTo(int newRank) {
            rank = newRank;
            if (blindAt >= rank) {
                blindAt = NOT_BLIND;
            }
        }

        /** Is the i-th new one a part of the sum that it looked at last? */
        boolean sees(int i) {
            return row[MAKINGS + i] != 0;
        }
    }

    /**
     * Sorts the tellings by what three witnesses see. Whatever has to be seen as not 0 is,
     * in lowest terms, above a bar that divides a determinant with at most 16 rows of
     * tellings (each of length 6 at most: below 6^16) or, for what they sum to, one with 17
     * rows and a column of sums (below 17 * 2000 * 6^16), so below 2^57: no two of the
     * primes divide it. The new ones themselves blind a witness only if its prime divides
     * such determinants of theirs, so at most one. One blind and one mistaken leave a third.
     */
    private static final class Judge {
        private static final int WITNESSES = 3;

        final Witness[] witnesses = new Witness[WITNESSES];
        final int[] verdicts = new int[MOST_TELLINGS];
        final int[] parts = new int[MOST_TELLINGS];
        final int[] newOnes = new int[MOST_NUMBERS];
        int rank;
        private int judged;

        Judge() {
            for (int w = 0; w < WITNESSES; w++) {
                witnesses[w] = new Witness(PRIMES[w]);
            }
        }

        /** A telling is judged by those ahead of it alone, so these stay judged. */
        void forgetFrom(int telling) {
            judged = Math.min(judged, telling);
        }

        void judgeUpTo(Sum[] sums, int size) {
            if (judged >= size) {
                return;
            }
            shrinkTo(howMany(NEW));
            for (int t = judged; t < size && t < sums.length; t++) {
                judgeOne(sums[t], t);
            }
            judged = size;
        }

        private void judgeOne(Sum sum, int telling) {
            parts[telling] = 0;
            if (sum.off) {
                verdicts[telling] = OFF;
                return;
            }
            verdicts[telling] = weigh(sum);
            if (verdicts[telling] != NEW) {
                parts[telling] = partsSeen();
            } else if (rank < MOST_NUMBERS) {
                newOnes[rank] = telling;
                adopt();
            }
        }

        /** How many of the judged ones are of a sort. */
        int howMany(int verdict) {
            int many = 0;
            for (int t = 0; t < judged; t++) {
                if (verdicts[t] == verdict) {
                    many++;
                }
            }
            return many;
        }

        int weigh(Sum sum) {
            boolean quarrel = false;
            boolean isNew = false;
            for (Witness witness : witnesses) {
                if (!witness.isBlind()) {
                    int seen = witness.look(sum);
                    isNew |= seen == NEW;
                    quarrel |= seen == QUARRELS;
                }
            }
            if (isNew) {
                return NEW;
            }
            return quarrel ? QUARRELS : FOLLOWS;
        }

        private int partsSeen() {
            int bits = 0;
            for (Witness witness : witnesses) {
                for (int i = 0; i < rank && !witness.isBlind(); i++) {
                    if (witness.sees(i)) {
                        bits |= 1 << newOnes[i];
                    }
                }
            }
            return bits;
        }

        /** The sum weighed last is one more to reckon with. */
        void adopt() {
            if (rank >= MOST_NUMBERS) {
                return;
            }
            for (Witness witness : witnesses) {
                witness.adopt();
            }
            rank++;
        }

        void shrinkTo(int newRank) {
            rank = newRank;
            for (Witness witness : witnesses) {
                witness.shrinkTo(newRank);
            }
        }
    }

    /**
     * Finds what is nearest to the rough numbers r where A x = n, A's rows being new ones:
     * x = r + A' y where (A A') y = n - A r. Both what is asked for and the strain are
     * "start + t . y", which is what is left in the corner when the table
     *      A A'   n - A r
     *      -t     start
     * has been cleared below the diagonal. Below the fraction stands det(A A'), at most
     * 36^16, so below 2^83; above it less than 2^114. That is done by the remainders of
     * four primes, whose product is above 2^123; at most two of the six divide det(A A')
     * and are passed over.
     */
    private static final class Balance {
        private static final int SIDE = MOST_NUMBERS + 1;

        private final int[][] factors = new int[MOST_NUMBERS][MOST_NUMBERS];
        private final int[] gaps = new int[MOST_NUMBERS];
        private int size;
        private final long[][] table = new long[SIDE][SIDE];
        private final long[][] work = new long[SIDE][SIDE];
        private final long[] primes = new long[Joiner.PARTS];
        private final long[] aboves = new long[Joiner.PARTS];
        private final long[] belows = new long[Joiner.PARTS];

        void clear() {
            size = 0;
        }

        void add(Sum sum, int[] roughs) {
            if (size >= MOST_NUMBERS) {
                return;
            }
            int[] line = factors[size];
            for (int c = 0; c < MOST_NUMBERS; c++) {
                line[c] = 0;
            }
            int gap = sum.total;
            for (int i = 0; i < sum.size; i++) {
                int number = sum.numbers[i];
                line[number] = sum.factors[i];
                gap -= sum.factors[i] * roughs[number];
            }
            gaps[size] = gap;
            size++;
        }

        void aimAt(int number, int start) {
            fillTable(start);
            for (int i = 0; i < size; i++) {
                table[size][i] = -factors[i][number];
            }
        }

        void aimAtStrain() {
            fillTable(0);
            for (int i = 0; i < size; i++) {
                table[size][i] = -gaps[i];
            }
        }

        private void fillTable(int start) {
            for (int i = 0; i < size; i++) {
                for (int j = 0; j <= i; j++) {
                    int product = dot(factors[i], factors[j]);
                    table[i][j] = product;
                    table[j][i] = product;
                }
                table[i][size] = gaps[i];
            }
            table[size][size] = start;
        }

        private static int dot(int[] one, int[] other) {
            int sum = 0;
            for (int c = 0; c < MOST_NUMBERS; c++) {
                sum += one[c] * other[c];
            }
            return sum;
        }

        void settle(Fraction answer) {
            int found = 0;
            for (int p = 0; p < PRIMES.length && found < Joiner.PARTS; p++) {
                long prime = PRIMES[p];
                long below = clearTable(prime);
                if (below != 0) {
                    primes[found] = prime;
                    belows[found] = below;
                    aboves[found] = Clock.remainder(below * work[size][size], prime);
                    found++;
                }
            }
            answer.become(aboves, belows, primes);
        }

        /** The remainder of det(A A'); if that is 0, the corner is not as it should be. */
        private long clearTable(long prime) {
            fillWork(prime);
            long determinant = 1;
            for (int c = 0; c < size; c++) {
                int from = findRow(c);
                if (from == NONE) {
                    return 0;
                }
                if (from != c) {
                    swapRows(from, c);
                    determinant = prime - determinant;
                }
                determinant = Clock.remainder(determinant * work[c][c], prime);
                clearBelow(c, prime);
            }
            return determinant;
        }

        private void fillWork(long prime) {
            for (int i = 0; i <= size; i++) {
                for (int j = 0; j <= size; j++) {
                    work[i][j] = Clock.remainder(table[i][j], prime);
                }
            }
        }

        private int findRow(int column) {
            for (int r = column; r < size; r++) {
                if (work[r][column] != 0) {
                    return r;
                }
            }
            return NONE;
        }

        private void swapRows(int one, int other) {
            long[] row = work[one];
            work[one] = work[other];
            work[other] = row;
        }

        private void clearBelow(int column, long prime) {
            long inverse = Clock.inverse(work[column][column], prime);
            for (int r = column + 1; r <= size; r++) {
                long value = work[r][column];
                if (value != 0) {
                    long factor = Clock.remainder((prime - value) * inverse, prime);
                    Clock.addTimes(work[r], work[column], factor, prime, column, size + 1);
                }
            }
        }
    }

    /** Puts a whole number together from its remainders by four primes. */
    private static final class Joiner {
        static final int PARTS = 4;

        private final long[] digits = new long[PARTS];

        /** The number's sign; its limbs without it. It lies far nearer to 0 than half the primes' product. */
        int join(long[] parts, long[] primes, long[] limbs) {
            findDigits(parts, primes, 1);
            boolean negative = digits[PARTS - 1] > primes[PARTS - 1] / 2;
            if (negative) {
                findDigits(parts, primes, -1);
            }
            Limbs.clear(limbs);
            for (int i = PARTS - 1; i >= 0; i--) {
                Limbs.timesAndAdd(limbs, primes[i], digits[i]);
            }
            if (Limbs.used(limbs) == 0) {
                return 0;
            }
            return negative ? -1 : 1;
        }

        /** The number is d0 + p0 (d1 + p1 (d2 + p2 d3)), each digit below its prime. */
        private void findDigits(long[] parts, long[] primes, int side) {
            for (int i = 0; i < PARTS; i++) {
                long prime = primes[i];
                long known = 0;
                long weight = 1;
                for (int j = i - 1; j >= 0; j--) {
                    known = Clock.remainder(known * primes[j] + digits[j], prime);
                    weight = Clock.remainder(weight * primes[j], prime);
                }
                long missing = Clock.remainder(side * parts[i] - known, prime);
                digits[i] = Clock.remainder(missing * Clock.inverse(weight, prime), prime);
            }
        }
    }

    /** A fraction in lowest terms, below above 0. */
    private static final class Fraction {
        int side;
        final long[] above = new long[Limbs.LENGTH];
        final long[] below = new long[Limbs.LENGTH];
        private final long[] one = new long[Limbs.LENGTH];
        private final long[] other = new long[Limbs.LENGTH];
        private final Joiner joiner = new Joiner();

        Fraction() {
            below[0] = 1;
        }

        void become(long[] aboves, long[] belows, long[] primes) {
            side = joiner.join(aboves, primes, above);
            joiner.join(belows, primes, below);
            if (side == 0) {
                Limbs.clear(below);
                below[0] = 1;
                return;
            }
            halveBoth();
            findDivisor();
            Limbs.divideByOdd(above, one);
            Limbs.divideByOdd(below, one);
        }

        private void halveBoth() {
            for (int step = 0; step < Limbs.BITS && ((above[0] | below[0]) & 1) == 0; step++) {
                Limbs.halve(above);
                Limbs.halve(below);
            }
        }

        /** The greatest odd number that divides both is left in one. */
        private void findDivisor() {
            System.arraycopy(above, 0, one, 0, Limbs.LENGTH);
            System.arraycopy(below, 0, other, 0, Limbs.LENGTH);
            Limbs.makeOdd(one);
            Limbs.makeOdd(other);
            for (int step = 0; step < 2 * Limbs.BITS; step++) {
                int order = Limbs.compare(one, other);
                if (order == 0) {
                    return;
                }
                long[] greater = order > 0 ? one : other;
                Limbs.subtract(greater, order > 0 ? other : one);
                Limbs.makeOdd(greater);
            }
        }

        long digestOnto(long h) {
            int aboves = Limbs.used(above);
            int belows = Limbs.used(below);
            long next = 31 * (31 * (31 * h + side) + aboves) + belows;
            for (int i = 0; i < aboves; i++) {
                next = 31 * next + above[i];
            }
            for (int i = 0; i < belows; i++) {
                next = 31 * next + below[i];
            }
            return next;
        }
    }

    /** Whole numbers from 0 on, by their limbs: five hold all below four primes' product. */
    private static final class Limbs {
        static final int LENGTH = 5;
        static final int SHIFT = 30;
        static final int BITS = LENGTH * SHIFT;
        static final long MASK = (1L << SHIFT) - 1;

        static void clear(long[] x) {
            for (int i = 0; i < LENGTH; i++) {
                x[i] = 0;
            }
        }

        static int used(long[] x) {
            for (int i = LENGTH; i > 0; i--) {
                if (x[i - 1] != 0) {
                    return i;
                }
            }
            return 0;
        }

        static int compare(long[] x, long[] y) {
            for (int i = LENGTH - 1; i >= 0; i--) {
                if (x[i] != y[i]) {
                    return x[i] < y[i] ? -1 : 1;
                }
            }
            return 0;
        }

        static void timesAndAdd(long[] x, long times, long more) {
            long carry = more;
            for (int i = 0; i < LENGTH; i++) {
                carry += x[i] * times;
                x[i] = carry & MASK;
                carry >>= SHIFT;
            }
        }

        /** Takes y off x, which is not less. */
        static void subtract(long[] x, long[] y) {
            long borrow = 0;
            for (int i = 0; i < LENGTH; i++) {
                borrow += x[i] - y[i];
                x[i] = borrow & MASK;
                borrow >>= SHIFT;
            }
        }

        static void halve(long[] x) {
            for (int i = 0; i < LENGTH - 1; i++) {
                x[i] = (x[i] >> 1) | ((x[i + 1] & 1) << (SHIFT - 1));
            }
            x[LENGTH - 1] >>= 1;
        }

        static void makeOdd(long[] x) {
            for (int step = 0; step < BITS && (x[0] & 1) == 0; step++) {
                halve(x);
            }
        }

        /**
         * Divides x by an odd number that divides it without a rest. From the lowest limb
         * on, each limb of the answer is the one that makes the limb of the rest 0.
         */
        static void divideByOdd(long[] x, long[] odd) {
            long inverse = inverseOfOdd(odd[0]);
            for (int i = 0; i < LENGTH; i++) {
                long digit = (x[i] * inverse) & MASK;
                long borrow = 0;
                for (int j = 0; i + j < LENGTH; j++) {
                    borrow += x[i + j] - digit * odd[j];
                    x[i + j] = borrow & MASK;
                    borrow >>= SHIFT;
                }
                x[i] = digit;
            }
        }

        /** Times the odd limb it is 1, as to the lowest bits: 3 of them at first, twice as many each step. */
        private static long inverseOfOdd(long odd) {
            long inverse = odd;
            for (int step = 0; step < 4; step++) {
                inverse = (inverse * ((2 - odd * inverse) & MASK)) & MASK;
            }
            return inverse;
        }
    }

    /**
     * The bars, by counting. A set of points is tight if the new bars inside it are as many
     * as they may be, twice the points less 3: one more bar inside it is one too many.
     */
    private static final class Frame {
        private static final int SETS = 1 << MOST_POINTS;

        final boolean[] extra = new boolean[MOST_BARS];
        int size;
        int newCount;
        final int[] built = new int[MOST_POINTS];
        private final int[] firsts = new int[MOST_BARS];
        private final int[] seconds = new int[MOST_BARS];
        private final int[] ends = new int[MOST_BARS];
        private final boolean[] tight = new boolean[SETS];

        private static int pairOf(int a, int b) {
            return 1 << a | 1 << b;
        }

        private boolean isInside(int bar, int set) {
            return (ends[bar] & ~set) == 0;
        }

        boolean hasBar(int a, int b) {
            for (int i = 0; i < size; i++) {
                if (ends[i] == pairOf(a, b)) {
                    return true;
                }
            }
            return false;
        }

        void add(int a, int b) {
            if (size >= MOST_BARS) {
                return;
            }
            firsts[size] = a;
            seconds[size] = b;
            ends[size] = pairOf(a, b);
            extra[size] = keeps(a, b);
            size++;
            if (!extra[size - 1]) {
                newCount++;
                findTightSets();
            }
        }

        private void findTightSets() {
            for (int set = 0; set < SETS; set++) {
                int points = Integer.bitCount(set);
                tight[set] = points >= 2 && newInside(set) >= 2 * points - 3;
            }
        }

        private int newInside(int set) {
            int many = 0;
            for (int i = 0; i < size; i++) {
                if (!extra[i] && isInside(i, set)) {
                    many++;
                }
            }
            return many;
        }

        /** Two points with a bar always lie in a tight set: they alone, or what makes the bar one too many. */
        boolean keeps(int a, int b) {
            int pair = pairOf(a, b);
            for (int set = 0; set < SETS; set++) {
                if (tight[set] && (pair & ~set) == 0) {
                    return true;
                }
            }
            return false;
        }

        /** Without one new bar the others leave room if that bar is inside every tight set around. */
        int ringOf(int bar) {
            int common = SETS - 1;
            for (int set = 0; set < SETS; set++) {
                if (tight[set] && isInside(bar, set)) {
                    common &= set;
                }
            }
            int bits = 0;
            for (int i = 0; i < size; i++) {
                if (!extra[i] && isInside(i, common)) {
                    bits |= 1 << i;
                }
            }
            return bits;
        }

        /** Fills the order they are built in; the points that are left when none can go, as bits. */
        int build(int points) {
            int left = (1 << points) - 1;
            int end = points;
            for (int step = 0; step < MOST_POINTS && end > 2; step++) {
                int going = findGoing(left);
                if (going == NONE) {
                    break;
                }
                left &= ~(1 << going);
                end--;
                built[end] = going;
            }
            int place = 0;
            for (int p = 0; p < MOST_POINTS; p++) {
                if ((left & 1 << p) != 0) {
                    built[place] = p;
                    place++;
                }
            }
            return left;
        }

        private int findGoing(int left) {
            for (int p = MOST_POINTS - 1; p >= 0; p--) {
                if ((left & 1 << p) != 0 && newAt(p, left) <= 2) {
                    return p;
                }
            }
            return NONE;
        }

        private int newAt(int point, int left) {
            int many = 0;
            for (int i = 0; i < size; i++) {
                if (!extra[i] && isInside(i, left) && (ends[i] & 1 << point) != 0) {
                    many++;
                }
            }
            return many;
        }

        long digestOnto(long h) {
            long next = h;
            for (int i = 0; i < size; i++) {
                next = 31 * (31 * next + firsts[i]) + seconds[i];
                next = 31 * next + (extra[i] ? 1 : 0);
            }
            return next;
        }
    }
}
