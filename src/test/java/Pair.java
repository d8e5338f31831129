/** DrawnTold and the model side by side: each call is made of both, and their answers compared. */
final class Pair {
    private static final int MOST_CALLS = 512;
    private final DrawnTold drawn = new DrawnTold();
    private final Model model = new Model();
    private final String run;
    private final StringBuilder calls = new StringBuilder();
    int made = 0;
    int wrong = 0;

    Pair(String run) {
        this.run = run;
    }

    private int same(String call, long got, long want) {
        made++;
        if (made == MOST_CALLS + 1) {
            wrong++;
            System.out.println(run + ": more calls than the document promises anything about");
        }
        calls.append(call).append("; ");
        if (got != want) {
            wrong++;
            System.out.println(run + ": " + call + " answered " + got + ", due is " + want + " behind " + calls);
        }
        return (int) want;
    }

    int point(int x, int y) {
        return same("point(" + x + ", " + y + ")", drawn.point(x, y), model.point(x, y));
    }

    int rough(int p, int x, int y) {
        return same("rough(" + p + ", " + x + ", " + y + ")", drawn.rough(p, x, y), model.rough(p, x, y));
    }

    int telling(int n) {
        return same("telling(" + n + ")", drawn.telling(n), model.telling(n));
    }

    int term(int t, int number, int times) {
        return same("term(" + t + ", " + number + ", " + times + ")", drawn.term(t, number, times),
            model.term(t, number, times));
    }

    int takeOff(int t, boolean is) {
        return same("takeOff(" + t + ", " + is + ")", drawn.takeOff(t, is), model.takeOff(t, is));
    }

    int drag(int p, int x, int y, int number) {
        int answer = same("drag(" + p + ", " + x + ", " + y + ", " + number + ")", drawn.drag(p, x, y, number),
            model.drag(p, x, y, number));
        sameFraction();
        return answer;
    }

    int ask(int number, int times) {
        return same("ask(" + number + ", " + times + ")", drawn.ask(number, times), model.ask(number, times));
    }

    int bar(int a, int b) {
        return same("bar(" + a + ", " + b + ")", drawn.bar(a, b), model.bar(a, b));
    }

    int holds() {
        return same("holds()", drawn.holds(), model.holds());
    }

    int strain() {
        int answer = same("strain()", drawn.strain(), model.strain());
        sameFraction();
        return answer;
    }

    void digest() {
        same("digest()", drawn.digest(), model.digest());
    }

    void whole() {
        same("whole()", drawn.whole(), model.whole());
    }

    void two(String name, int a, int b) {
        String call = name + "(" + a + ", " + b + ")";
        switch (name) {
            case "limb" -> same(call, drawn.limb(a, b), model.limb(a, b));
            case "kept" -> same(call, drawn.kept(a, b), model.kept(a, b));
            case "piece" -> same(call, drawn.piece(a, b), model.piece(a, b));
            default -> throw new IllegalArgumentException(name);
        }
    }

    int one(String name, int a) {
        String call = name + "(" + a + ")";
        int answer = switch (name) {
            case "sort" -> same(call, drawn.sort(a), model.sort(a));
            case "madeOf" -> same(call, drawn.madeOf(a), model.madeOf(a));
            case "tellings" -> same(call, drawn.tellings(a), model.tellings(a));
            case "fixed" -> same(call, drawn.fixed(a), model.fixed(a));
            case "question" -> same(call, drawn.question(a), model.question(a));
            case "nearest" -> same(call, drawn.nearest(a), model.nearest(a));
            case "sign" -> same(call, drawn.sign(a), model.sign(a));
            case "sortOf" -> same(call, drawn.sortOf(a), model.sortOf(a));
            case "bars" -> same(call, drawn.bars(a), model.bars(a));
            case "round" -> same(call, drawn.round(a), model.round(a));
            case "fixes" -> same(call, drawn.fixes(a), model.fixes(a));
            case "order" -> same(call, drawn.order(a), model.order(a));
            case "count" -> same(call, drawn.count(a), model.count(a));
            default -> throw new IllegalArgumentException(name);
        };
        if (name.equals("fixed") || name.equals("nearest")) {
            sameFraction();
        }
        return answer;
    }

    /** All of the fraction, with one place more than it has. */
    void sameFraction() {
        for (int what = 0; what < 3; what++) {
            one("sign", what);
        }
        for (int which = 0; which < 2; which++) {
            int limbs = model.sign(1 + which);
            for (int i = 0; i <= limbs; i++) {
                two("limb", which, i);
            }
        }
    }
}
