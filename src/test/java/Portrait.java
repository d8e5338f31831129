import java.util.ArrayList;
import java.util.List;

/** All that can be asked of a drawing, and what it answers when it is drawn on: some 250 calls at most. */
final class Portrait {
    private final DrawnTold d;
    private final List<String> lines = new ArrayList<>();

    private Portrait(DrawnTold d) {
        this.d = d;
    }

    static List<String> of(DrawnTold d) {
        Portrait portrait = new Portrait(d);
        // first, as the fraction and the question are told by it alone
        portrait.add("digest", d.digest());
        portrait.tellings();
        portrait.bars();
        portrait.places();
        portrait.drawnOn();
        return portrait.lines;
    }

    /** Null: none. */
    static String difference(List<String> got, List<String> want) {
        for (int i = 0; i < Math.min(got.size(), want.size()); i++) {
            if (!got.get(i).equals(want.get(i))) {
                return "later " + got.get(i) + ", due is " + want.get(i);
            }
        }
        return got.size() == want.size() ? null : "later there were " + got.size() + " answers, not " + want.size();
    }

    private void add(String what, long answer) {
        lines.add(what + " answers " + answer);
    }

    private void tellings() {
        for (int what = 0; what < 4; what++) {
            add("count " + what, d.count(what));
            add("tellings " + what, d.tellings(what));
        }
        int tellings = d.count(1);
        for (int t = 0; t < tellings; t++) {
            add("sort " + t, d.sort(t));
            add("madeOf " + t, d.madeOf(t));
        }
        add("holds", d.holds());
    }

    private void bars() {
        int points = d.count(0);
        for (int what = 0; what < 3; what++) {
            add("bars " + what, d.bars(what));
        }
        int bars = d.count(3);
        for (int bar = 0; bar < bars; bar++) {
            add("round " + bar, d.round(bar));
        }
        for (int a = 0; a < points; a++) {
            for (int b = a + 1; b < points; b++) {
                add("piece " + a + " " + b, d.piece(a, b));
            }
        }
        int fixes = d.fixes(DrawnTold.NONE);
        for (int i = 0; i <= fixes; i++) {
            add("fixes " + i, d.fixes(i));
        }
        for (int i = 0; i <= points; i++) {
            add("order " + i, d.order(i));
        }
        add("whole", d.whole());
    }

    private void places() {
        int points = d.count(0);
        for (int number = 0; number < 2 * points; number++) {
            add("fixed " + number, d.fixed(number));
            add("digest behind it", d.digest());
            add("nearest " + number, d.nearest(number));
            add("digest behind it", d.digest());
        }
        for (int p = 0; p < points; p++) {
            add("drag " + p, d.drag(p, 7 * p, -9, 2 * points - 1 - p));
            add("digest behind it", d.digest());
        }
        add("strain", d.strain());
        add("digest behind it", d.digest());
    }

    private void drawnOn() {
        add("point", d.point(12, -34));
        add("rough", d.rough(0, 5, 6));
        add("telling", d.telling(77));
        for (int number = 0; number < 5; number++) {
            add("term " + number, d.term(0, number, 2));
            add("ask " + number, d.ask(number, 1));
        }
        add("takeOff", d.takeOff(0, true));
        add("bar", d.bar(0, 1));
        add("bar", d.bar(6, 7));
        add("holds", d.holds());
        add("digest at last", d.digest());
        add("question", d.question(3));
        add("digest at last", d.digest());
    }
}
