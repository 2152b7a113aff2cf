import java.util.ArrayList;
import java.util.List;
import java.util.Random;

/** Castles, acts and questions by chance (of fixed seeds), each answer held against the model's. */
public final class ModelTests {
    private static final int CASTLES = 600;

    public static void main(String[] args) {
        for (int seed = 1; seed <= CASTLES; seed++) {
            new ModelTests(seed).run();
        }
        Desk.close("ModelTests");
    }

    private final Random r;
    private final Desk d;
    private Model m;
    private int[] seen = {};
    private long drawn = 1;
    private final List<Model> past = new ArrayList<>();

    private ModelTests(int seed) {
        r = new Random(seed);
        m = Model.castle(r);
        d = new Desk("castle " + seed);
    }

    private void run() {
        int told = d.castle(m.text);
        d.due("castle() of " + m.text + " with fault " + d.x.fault(0) + " at " + d.x.fault(1), told, statements());
        if (told < 0) {
            return;
        }
        if (r.nextInt(8) == 0) {
            m.round = 999 - r.nextInt(40);
            d.due("on()", d.on(m.image()), true);
        }
        // an object's first 512 calls alone are promised
        for (int k = 0; k < 4; k++) {
            lookAhead();
            seek();
            feel();
            question();
            act();
        }
        stand();
    }

    private int statements() {
        int n = 0;
        for (int k = 0; k < m.text.length(); k++) {
            n += m.text.charAt(k) == ';' ? 1 : 0;
        }
        return n;
    }

    private void lookAhead() {
        int t = r.nextInt(m.towers + 1);
        int k = r.nextInt(4) == 0 ? r.nextInt(64) - 1 : r.nextInt(5);
        d.due("tone(" + t + ", " + k + ")", d.x.tone(t, k), m.tone(t, k));
        d.due("mood(" + t + ", " + k + ")", d.x.mood(t, k), m.mood(t, k));
        d.due("doubts(" + k + ")", d.x.doubts(k), m.doubts(k));
        d.due("fire()", d.x.fire(), m.fire());
        d.due("settles(0)", d.x.settles(0), m.settles(0));
        d.due("settles(1)", d.x.settles(1), m.settles(1));
    }

    private void seek() {
        int n = 1 + r.nextInt(r.nextInt(3) == 0 ? 30 : 4);
        d.due("cheered(" + n + ")", d.x.cheered(n), m.cheered(n));
        d.due("sighs(" + n + ")", d.x.sighs(n), m.sighs(n));
        int[] better = m.better(n);
        int[] placed = m.placed(n);
        int[] game = m.game();
        for (int what = 0; what < 2; what++) {
            d.due("better(" + n + ", " + what + ")", d.x.better(n, what), better[what]);
            d.due("game(" + what + ")", d.x.game(what), game[what]);
        }
        for (int what = 0; what < 3; what++) {
            d.due("placed(" + n + ", " + what + ")", d.x.placed(n, what), placed[what]);
        }
        int k = 1 + r.nextInt(3);
        d.due("rule(" + k + ", " + n * 2 + ")", d.x.rule(k, n * 2), m.rule(k, n * 2));
    }

    private void feel() {
        if (m.towers == 0) {
            return;
        }
        int rows = 1 + r.nextInt(3);
        int[] rowsSeen = new int[3 * rows];
        Model other = m.copy();
        other.mood[r.nextInt(m.towers)] = r.nextInt(10);
        for (int k = 0; k < rows; k++) {
            rowsSeen[3 * k] = r.nextInt(r.nextBoolean() ? 31 : 3);
            rowsSeen[3 * k + 1] = r.nextInt(m.towers);
            rowsSeen[3 * k + 2] = Math.max(0, other.tone(rowsSeen[3 * k + 1], rowsSeen[3 * k]));
        }
        if (r.nextInt(3) != 0) {
            seen = rowsSeen;
            d.due("see()", d.see(seen), rows);
        }
        int t = r.nextInt(m.towers);
        d.due("moods(" + t + ")", d.x.moods(t), m.moods(t, seen));
        int[] tells = m.tells(t, seen);
        for (int what = 0; what < 3; what++) {
            d.due("tells(" + t + ", " + what + ")", d.x.tells(t, what), tells[what]);
        }
    }

    private void question() {
        for (String what : new String[] {"first", "last", "often"}) {
            Model.Claim c = Model.test(r, 6);
            String text = what + " " + c.text;
            d.due("ask() of " + text, d.ask(text), m.ask(what, null, c.test));
        }
        for (String what : new String[] {"total", "most", "least"}) {
            Model.Text c = Model.sum(r, 2, 6, 8);
            String text = Model.gap(r) + what + " " + c.text + Model.gap(r);
            d.due("ask() of " + text, d.ask(text), m.ask(what, c.sum, null));
        }
    }

    private void act() {
        for (int k = 0; k < 4; k++) {
            Model before = m.copy();
            boolean done = oneAct();
            if (done) {
                past.add(before);
                if (past.size() > 20) {
                    past.remove(0);
                }
            }
        }
        if (r.nextInt(3) == 0) {
            boolean can = !past.isEmpty();
            d.due("undo()", d.x.undo(), can);
            if (can) {
                m = past.remove(past.size() - 1);
            }
        }
        if (r.nextInt(8) == 0) {
            drawn = r.nextInt(Integer.MAX_VALUE);
            d.due("seed()", d.x.seed((int) drawn), true);
        }
    }

    private boolean oneAct() {
        int a = r.nextInt(m.towers + 1);
        int b = r.nextInt(m.towers + 1);
        boolean real = a < m.towers;
        int n = r.nextInt(10);
        boolean can;
        switch (r.nextInt(5)) {
            case 0:
                can = real && m.cheer[a] != n;
                d.due("cheer(" + a + ", " + n + ")", d.x.cheer(a, n), can);
                if (can) {
                    m.cheer[a] = n;
                }
                return can;
            case 1:
                can = real && m.yes[a] != n % 2 > 0;
                d.due("yes(" + a + ", " + n % 2 + ")", d.x.yes(a, n % 2), can);
                if (can) {
                    m.yes[a] = !m.yes[a];
                }
                return can;
            case 2:
                can = real && b < m.towers && a != b;
                d.due("change(" + a + ", " + b + ")", d.x.change(a, b), can);
                if (can) {
                    m.change(a, b);
                }
                return can;
            case 3:
                return goOn(n, false);
            default:
                return goOn(n, true);
        }
    }

    private boolean goOn(int n, boolean chance) {
        boolean can = n > 0 && m.round + n <= 999;
        int fires = 0;
        int colds = 0;
        for (int k = 0; k < n && can; k++) {
            if (chance && draw(100) < m.cold && m.towers > 0) {
                int t = (int) draw(m.towers);
                m.mood[t] = Math.max(0, m.mood[t] - 2);
                colds++;
            }
            fires += m.goOn();
        }
        if (chance) {
            d.due("chance(" + n + ")", d.x.chance(n), can ? colds : -1);
        } else {
            d.due("rounds(" + n + ")", d.x.rounds(n), can ? fires : -1);
        }
        return can;
    }

    private long draw(int m) {
        drawn = (1103515245L * drawn + 12345) % (1L << 31);
        return drawn / 64 % m;
    }

    private void stand() {
        int[] image = d.image();
        int[] due = m.image();
        d.due("image()", image.length, due.length);
        for (int k = 0; k < due.length; k++) {
            d.due("octet(" + k + ")", image[k], due[k]);
        }
        int shown = Math.min(40, m.kept.size());
        d.due("has(5)", d.x.has(5), shown);
        for (int k = 0; k < shown; k++) {
            for (int what = 0; what < 3; what++) {
                d.due("kept(" + k + ", " + what + ")", d.x.kept(k, what), m.kept.get(m.kept.size() - shown + k)[what]);
            }
        }
        d.due("has(6)", d.x.has(6), seen.length / 3);
        d.due("has(7)", d.x.has(7), past.size());
    }
}
