import java.util.ArrayList;
import java.util.List;
import java.util.Random;

/** A second, slower telling of the document's terms; sums are made as a text and as a function at once. */
final class Model {
    /** What the words of a sum tell. */
    static final class View {
        int heard, mood, cheer, round, place, sigh, tone, glad, yes;
        Model now;
    }

    interface Sum {
        long of(View v);
    }

    interface Test {
        boolean of(View v);
    }

    static final class Text {
        final String text;
        final Sum sum;

        Text(String text, Sum sum) {
            this.text = text;
            this.sum = sum;
        }
    }

    static final class Claim {
        final String text;
        final Test test;

        Claim(String text, Test test) {
            this.text = text;
            this.test = test;
        }
    }

    int towers, round, last, well = 4, fires = 3, cold;
    int[] mood = new int[8];
    int[] cheer = new int[8];
    boolean[] yes = new boolean[8];
    Sum says = v -> Math.min(v.heard, v.mood + v.cheer) - v.sigh;
    Sum feels = v -> v.mood;
    List<int[]> kept = new ArrayList<>();
    String text;

    Model copy() {
        Model m = new Model();
        m.towers = towers;
        m.round = round;
        m.last = last;
        m.well = well;
        m.fires = fires;
        m.cold = cold;
        m.mood = mood.clone();
        m.cheer = cheer.clone();
        m.yes = yes.clone();
        m.says = says;
        m.feels = feels;
        m.kept = new ArrayList<>(kept);
        m.text = text;
        return m;
    }

    static int grade(long n) {
        return n < 0 ? 0 : n > 9 ? 9 : (int) n;
    }

    int[] go(int sighs) {
        int[] tones = new int[towers];
        for (int t = 0; t < towers; t++) {
            View v = new View();
            v.heard = last;
            v.mood = mood[t];
            v.cheer = cheer[t];
            v.round = round;
            v.place = t;
            v.sigh = (sighs & 1 << t) != 0 ? 1 : 0;
            v.tone = yes[t] ? 9 : grade(says.of(v));
            tones[t] = v.tone;
            mood[t] = grade(feels.of(v));
            last = v.tone;
        }
        round++;
        return tones;
    }

    int doubtful(int[] tones) {
        int n = 0;
        for (int tone : tones) {
            n += tone < well ? 1 : 0;
        }
        return n;
    }

    int row(int[] tones, int k) {
        for (int from = 0; from + k <= tones.length; from++) {
            boolean all = true;
            for (int i = 0; i < k; i++) {
                all &= tones[from + i] < well;
            }
            if (all) {
                return from;
            }
        }
        return -1;
    }

    int tone(int t, int k) {
        if (t < 0 || t >= towers || k < 0 || k > 60 || round + k >= 999) {
            return -1;
        }
        Model m = copy();
        int[] tones = {};
        for (int i = 0; i <= k; i++) {
            tones = m.go(0);
        }
        return tones[t];
    }

    int mood(int t, int n) {
        if (t < 0 || t >= towers || n < 0 || n > 60 || round + n > 999) {
            return -1;
        }
        Model m = copy();
        for (int i = 0; i < n; i++) {
            m.go(0);
        }
        return m.mood[t];
    }

    int doubts(int k) {
        if (k < 0 || k > 60 || round + k >= 999) {
            return -1;
        }
        Model m = copy();
        for (int i = 0; i < k; i++) {
            m.go(0);
        }
        return doubtful(m.go(0));
    }

    int fire() {
        Model m = copy();
        for (int k = 0; k <= 60 && m.round < 999; k++) {
            if (row(m.go(0), fires) >= 0) {
                return k;
            }
        }
        return -1;
    }

    int settles(int what) {
        List<String> was = new ArrayList<>();
        Model m = copy();
        for (int k = 0; k <= 60; k++) {
            String is = java.util.Arrays.toString(m.mood) + m.last;
            if (was.contains(is)) {
                return what == 0 ? k : k - was.indexOf(is);
            }
            was.add(is);
            if (m.round >= 999) {
                return -1;
            }
            m.go(0);
        }
        return -1;
    }

    private boolean firesWithin(int n, int sighs) {
        Model m = copy();
        boolean fire = false;
        for (int k = 0; k < n; k++) {
            fire |= m.row(m.go(k == 0 ? sighs : 0), fires) >= 0;
        }
        return fire;
    }

    int cheered(int n) {
        if (round + n > 999) {
            return -1;
        }
        int best = -1;
        for (int bits = 0; bits < 1 << towers; bits++) {
            Model m = copy();
            for (int t = 0; t < towers; t++) {
                m.cheer[t] = (bits & 1 << t) != 0 ? 9 : cheer[t];
            }
            if (Integer.bitCount(bits) <= 3 && !m.firesWithin(n, 0)
                && (best < 0 || Integer.bitCount(bits) < Integer.bitCount(best))) {
                best = bits;
            }
        }
        return best;
    }

    int sighs(int n) {
        if (round + n > 999) {
            return -1;
        }
        int best = -1;
        for (int bits = 0; bits < 1 << towers; bits++) {
            if (Integer.bitCount(bits) <= 3 && firesWithin(n, bits)
                && (best < 0 || Integer.bitCount(bits) < Integer.bitCount(best))) {
                best = bits;
            }
        }
        return best;
    }

    int together(int n) {
        Model m = copy();
        int sum = 0;
        for (int k = 0; k < n; k++) {
            sum += m.doubtful(m.go(0));
        }
        return sum;
    }

    int[] better(int n) {
        if (round + n > 999) {
            return new int[] {-1, -1};
        }
        int[] best = {-1, together(n)};
        for (int t = 0; t < towers; t++) {
            Model m = copy();
            m.yes[t] = true;
            if (!yes[t] && m.together(n) < best[1]) {
                best = new int[] {t, m.together(n)};
            }
        }
        return best[0] < 0 ? new int[] {-1, -1} : best;
    }

    void change(int a, int b) {
        int m = mood[a];
        mood[a] = mood[b];
        mood[b] = m;
        int c = cheer[a];
        cheer[a] = cheer[b];
        cheer[b] = c;
    }

    int[] placed(int n) {
        if (round + n > 999) {
            return new int[] {-1, -1, -1};
        }
        int[] best = {-1, -1, together(n)};
        for (int a = 0; a < towers; a++) {
            for (int b = a + 1; b < towers; b++) {
                Model m = copy();
                m.change(a, b);
                if (m.together(n) < best[2]) {
                    best = new int[] {a, b, m.together(n)};
                }
            }
        }
        return best[0] < 0 ? new int[] {-1, -1, -1} : best;
    }

    int[] game() {
        if (round >= 999) {
            return new int[] {-1, -1};
        }
        int[] best = {99, -1};
        for (int c = -1; c < towers; c++) {
            int worst = 0;
            for (int d = -1; d < towers; d++) {
                Model m = copy();
                if (c >= 0) {
                    m.cheer[c] = 9;
                }
                worst = Math.max(worst, m.doubtful(m.go(d < 0 ? 0 : 1 << d)));
            }
            if (worst < best[0]) {
                best = new int[] {worst, c};
            }
        }
        return best;
    }

    int rule(int k, int n) {
        if (round + n > 999) {
            return -1;
        }
        Model m = copy();
        int rung = 0;
        for (int i = 0; i < n; i++) {
            rung += m.row(m.go(0), k) >= 0 ? 1 : 0;
        }
        return rung;
    }

    int moods(int tower, int[] seen) {
        int bits = 0;
        for (int mood = 0; mood < 10; mood++) {
            Model m = copy();
            m.mood[tower] = mood;
            boolean so = true;
            for (int k = 0; k < seen.length; k += 3) {
                so &= m.tone(seen[k + 1], seen[k]) == seen[k + 2];
            }
            bits |= so ? 1 << mood : 0;
        }
        return bits;
    }

    int[] tells(int tower, int[] seen) {
        int bits = moods(tower, seen);
        int[] best = {-1, -1, -1};
        if (bits == 0) {
            return best;
        }
        for (int k = 0; k <= 30 && round + k < 999; k++) {
            for (int u = 0; u < towers; u++) {
                int[] left = new int[10];
                int most = 0;
                for (int mood = 0; mood < 10; mood++) {
                    if ((bits & 1 << mood) != 0) {
                        Model m = copy();
                        m.mood[tower] = mood;
                        most = Math.max(most, ++left[m.tone(u, k)]);
                    }
                }
                if (best[2] < 0 || most < best[2]) {
                    best = new int[] {k, u, most};
                }
            }
        }
        return best;
    }

    /** A round that counts: 1 if it is a fire. */
    int goOn() {
        int number = round;
        int[] tones = go(0);
        int row = row(tones, fires);
        if (row >= 0) {
            kept.add(new int[] {number, row, doubtful(tones)});
        }
        return row >= 0 ? 1 : 0;
    }

    int[] image() {
        int[] bytes = new int[3 + 3 * towers];
        bytes[0] = round / 256;
        bytes[1] = round % 256;
        bytes[2] = last;
        for (int t = 0; t < towers; t++) {
            bytes[3 + 3 * t] = mood[t];
            bytes[4 + 3 * t] = cheer[t];
            bytes[5 + 3 * t] = yes[t] ? 1 : 0;
        }
        return Desk.checked(bytes);
    }

    View view(int t) {
        View v = new View();
        v.now = this;
        v.mood = mood[t];
        v.cheer = cheer[t];
        v.round = round;
        v.place = t;
        v.tone = tone(t, 0);
        v.glad = mood(t, 1);
        v.yes = yes[t] ? 1 : 0;
        return v;
    }

    long ask(String what, Sum sum, Test test) {
        long answer = what.equals("first") || what.equals("last") ? -1 : 0;
        for (int t = 0; t < towers; t++) {
            View v = view(t);
            boolean holds = test != null && test.of(v);
            long value = sum != null ? sum.of(v) : 0;
            switch (what) {
                case "first": answer = answer < 0 && holds ? t : answer; break;
                case "last": answer = holds ? t : answer; break;
                case "often": answer += holds ? 1 : 0; break;
                case "total": answer += value; break;
                case "most": answer = t == 0 || value > answer ? value : answer; break;
                default: answer = t == 0 || value < answer ? value : answer; break;
            }
        }
        return answer;
    }

    // ---- texts by chance

    static long bound(long n) {
        return n > 1000000 ? 1000000 : n < -1000000 ? -1000000 : n;
    }

    static String gap(Random r) {
        return new String[] {"", "", "", " ", "\n ", "  "}[r.nextInt(6)];
    }

    /** Where: 0 says, 1 feels, 2 a question. No more than so many are open at once. */
    static Text sum(Random r, int where, int open, int size) {
        Text all = product(r, where, open, size);
        for (int k = r.nextInt(3); k > 0; k--) {
            Text left = all;
            Text right = product(r, where, open, size / 2);
            boolean plus = r.nextBoolean();
            all = new Text(left.text + gap(r) + (plus ? "+" : "-") + gap(r) + right.text,
                v -> bound(plus ? left.sum.of(v) + right.sum.of(v) : left.sum.of(v) - right.sum.of(v)));
        }
        return all;
    }

    private static Text product(Random r, int where, int open, int size) {
        Text all = part(r, where, open, size);
        for (int k = r.nextInt(4) == 0 ? r.nextInt(3) : 0; k > 0; k--) {
            Text left = all;
            Text right = part(r, where, open, size / 2);
            boolean times = r.nextBoolean();
            all = new Text(left.text + gap(r) + (times ? "*" : "/") + gap(r) + right.text,
                v -> times ? bound(left.sum.of(v) * right.sum.of(v)) : share(left.sum.of(v), right.sum.of(v)));
        }
        return all;
    }

    private static long share(long a, long b) {
        return b == 0 ? 0 : (long) Math.floor((double) a / b);
    }

    private static Text part(Random r, int where, int open, int size) {
        int kind = open > 0 && size > 0 ? r.nextInt(10) : r.nextInt(6);
        if (kind < 2) {
            int n = r.nextInt(12) == 0 ? r.nextInt(10000) : r.nextInt(10);
            return new Text((n < 1000 && r.nextInt(5) == 0 ? "0" : "") + n, v -> n);
        }
        if (kind < 6) {
            return word(r, where);
        }
        if (kind == 9 && where == 2) {
            Text inner = part(r, where, open - 1, size / 2);
            return new Text("heard " + inner.text, v -> ahead(v, inner.sum.of(v)));
        }
        if (kind >= 8) {
            Text a = sum(r, where, open - 1, size / 2);
            Text b = sum(r, where, open - 1, size / 2);
            boolean min = r.nextBoolean();
            return new Text((min ? "min" : "max") + gap(r) + "(" + gap(r) + a.text + gap(r) + "," + gap(r) + b.text + gap(r) + ")",
                v -> min ? Math.min(a.sum.of(v), b.sum.of(v)) : Math.max(a.sum.of(v), b.sum.of(v)));
        }
        Text inner = sum(r, where, open - 1, size / 2);
        return new Text("(" + gap(r) + inner.text + gap(r) + ")", inner.sum);
    }

    private static long ahead(View v, long k) {
        return k < 0 || k > 30 ? -1 : v.now.tone(v.place, (int) k);
    }

    private static Text word(Random r, int where) {
        switch (r.nextInt(where == 2 ? 7 : 6)) {
            case 0: return new Text("mood", v -> v.mood);
            case 1: return new Text("cheer", v -> v.cheer);
            case 2: return new Text("round", v -> v.round);
            case 3: return where == 2 ? new Text("number", v -> v.place) : new Text("place", v -> v.place);
            case 4: return where == 0 ? new Text("sigh", v -> v.sigh) : new Text("tone", v -> v.tone);
            case 5: return where == 2 ? new Text("glad", v -> v.glad) : new Text("heard", v -> v.heard);
            default: return new Text("yes", v -> v.yes);
        }
    }

    static Claim test(Random r, int open) {
        Claim all = both(r, open);
        for (int k = r.nextInt(3) == 0 ? r.nextInt(3) : 0; k > 0; k--) {
            Claim left = all;
            Claim right = both(r, open);
            all = new Claim(left.text + " or " + right.text, v -> left.test.of(v) || right.test.of(v));
        }
        return all;
    }

    private static Claim both(Random r, int open) {
        Claim all = fact(r, open);
        for (int k = r.nextInt(3) == 0 ? r.nextInt(3) : 0; k > 0; k--) {
            Claim left = all;
            Claim right = fact(r, open);
            all = new Claim(left.text + " and " + right.text, v -> left.test.of(v) && right.test.of(v));
        }
        return all;
    }

    private static Claim fact(Random r, int open) {
        int kind = r.nextInt(8);
        if (kind == 0) {
            return new Claim("all", v -> true);
        }
        if (kind == 1 && open > 0) {
            Claim inner = fact(r, open - 1);
            return new Claim("not " + inner.text, v -> !inner.test.of(v));
        }
        if (kind == 2 && open > 0) {
            Claim inner = test(r, open - 1);
            return new Claim("[" + gap(r) + inner.text + gap(r) + "]", inner.test);
        }
        Text a = sum(r, 2, open, 3);
        Text b = sum(r, 2, open, 1);
        int sign = r.nextInt(3);
        return new Claim(a.text + gap(r) + "<>=".charAt(sign) + gap(r) + b.text, v -> {
            long x = a.sum.of(v);
            long y = b.sum.of(v);
            return sign == 0 ? x < y : sign == 1 ? x > y : x == y;
        });
    }

    /** A castle by chance, with its text. */
    static Model castle(Random r) {
        Model m = new Model();
        m.last = r.nextInt(10);
        StringBuilder s = new StringBuilder(gap(r) + "call " + m.last + gap(r) + ";");
        m.towers = r.nextInt(6) == 0 ? r.nextInt(9) : 2 + r.nextInt(4);
        for (int t = 0; t < m.towers; t++) {
            m.mood[t] = r.nextInt(10);
            m.cheer[t] = r.nextInt(3) == 0 ? r.nextInt(10) : r.nextInt(3);
            s.append(gap(r)).append("tower ").append("abcdefgh".charAt(t)).append(t % 2 == 0 ? "x" : "")
                .append(" mood ").append(m.mood[t]).append(" cheer ").append(m.cheer[t]).append(gap(r)).append(";");
        }
        for (int t = 0; t < m.towers; t++) {
            if (r.nextInt(6) == 0) {
                m.yes[t] = true;
                s.append("yes ").append("abcdefgh".charAt(t)).append(t % 2 == 0 ? "x" : "").append(gap(r)).append(";");
            }
        }
        if (r.nextInt(4) != 0) {
            Text sum = saying(r);
            m.says = sum.sum;
            s.append("says ").append(sum.text).append(gap(r)).append(";");
        }
        if (r.nextInt(4) != 0) {
            Text sum = feeling(r);
            m.feels = sum.sum;
            s.append("feels ").append(sum.text).append(gap(r)).append(";");
        }
        if (r.nextBoolean()) {
            m.well = 1 + r.nextInt(9);
            s.append("well 3;well ").append(m.well).append(";");
        }
        if (r.nextInt(4) != 0) {
            m.fires = 1 + r.nextInt(3);
            s.append("fires ").append(m.fires).append(" ;");
        }
        if (r.nextBoolean()) {
            m.cold = r.nextInt(101);
            s.append("cold ").append(m.cold).append(";\n");
        }
        m.text = s.toString();
        return m;
    }

    private static Text saying(Random r) {
        if (r.nextInt(3) == 0) {
            int k = 1 + r.nextInt(3);
            return new Text("min(heard+1,mood+cheer)-sigh*" + k,
                v -> Math.min(v.heard + 1, v.mood + v.cheer) - v.sigh * k);
        }
        return sum(r, 0, 6, 8);
    }

    private static Text feeling(Random r) {
        if (r.nextInt(3) == 0) {
            int k = r.nextInt(3);
            return new Text("(mood*2+tone+heard+" + k + ")/4", v -> Math.floorDiv(v.mood * 2 + v.tone + v.heard + k, 4));
        }
        return sum(r, 1, 6, 8);
    }
}
