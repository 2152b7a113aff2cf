/** Promises 1 to 35: each "NONE when", "refused", "without a castle", "for others", on both sides of its boundary. */
public final class PromiseEdgeTests {
    /** Of this one every call that is in its bounds has an answer: a is doubtful, c of yes is the place for it. */
    private static final String RICH = "call 9;tower a mood 1 cheer 0;tower b mood 9 cheer 0;tower c mood 9 cheer 0;yes c;"
        + "says mood+cheer-sigh;fires 1;cold 30;";
    private static final int LOWEST = Integer.MIN_VALUE;
    private static final int HIGHEST = Integer.MAX_VALUE;

    /** A call on an object; true counts 1, false 0. */
    private interface Call {
        long of(AllIsWell x);
    }

    /** A call with the argument that is tried. */
    private interface With {
        long of(AllIsWell x, int n);
    }

    public static void main(String[] args) {
        newObject();
        feeds();
        ends();
        castles();
        castlesWithFault();
        faults();
        hasAndOthers();
        letters();
        towers();
        keptOnes();
        tones();
        moodsAhead();
        doubtsAhead();
        fires();
        settling();
        cheered();
        sighs();
        better();
        placed();
        games();
        rules();
        sees();
        moodBits();
        telling();
        cheers();
        yesses();
        changes();
        rounds();
        chances();
        undone();
        seeds();
        asks();
        asksWithoutCastle();
        images();
        octets();
        ons();
        onsRefused();
        statuses();
        theEighthTower();
        theEighthFeels();
        Desk.close("PromiseEdgeTests");
    }

    // ---- what the tests share

    private static Desk empty(String sentence) {
        return new Desk(sentence);
    }

    /** A castle that has seen, kept and can undo something: refused calls must leave it so. */
    private static Desk rich(String sentence) {
        Desk d = new Desk(sentence);
        d.castle(RICH);
        d.x.rounds(2);
        d.x.cheer(1, 3);
        d.see(0, 0, 1);
        return d;
    }

    /** All that can be seen of an object, but for how many were refused. */
    private static String state(AllIsWell x) {
        StringBuilder s = new StringBuilder();
        for (int what = 0; what < 8; what++) {
            s.append(x.has(what)).append(' ');
        }
        for (int t = 0; t < x.has(0); t++) {
            s.append(x.letter(t, 0)).append(x.tower(t, 0)).append(x.tower(t, 1)).append(x.tower(t, 2)).append(x.moods(t)).append(' ');
        }
        for (int k = 0; k < x.has(5); k++) {
            s.append(x.kept(k, 0)).append(x.kept(k, 1)).append(x.kept(k, 2)).append(' ');
        }
        return s.append(x.fire()).append(x.fault(0)).append(x.fault(1)).append(x.octet(0)).toString();
    }

    /** The call is answered so, one more of this kind is refused and none of another, and all stays. */
    private static void refused(Desk d, String name, int kind, long due, Call call) {
        String before = state(d.x);
        int[] counts = new int[6];
        for (int k = 0; k < 6; k++) {
            counts[k] = d.x.status(k);
        }
        d.due(name, call.of(d.x), due);
        for (int k = 0; k < 6; k++) {
            d.due("status(" + k + ") behind " + name, d.x.status(k), counts[k] + (k == kind ? 1 : 0));
        }
        d.due("all stays behind " + name, state(d.x).equals(before), true);
    }

    /** In these bounds there is an answer, next to them and far from them there is NONE, and nothing is refused. */
    private static void bounded(String name, int least, int most, With call) {
        int[] outside = {LOWEST, least - 1, most + 1, HIGHEST};
        for (int n : outside) {
            refused(rich(name), name + " of " + n, -1, -1, x -> call.of(x, n));
        }
        for (int n : new int[] {least, least + 1, most - 1, most}) {
            if (n >= least && n <= most) {
                Desk d = rich(name);
                d.due(name + " of " + n + " has an answer", call.of(d.x, n) != -1, true);
            }
        }
    }

    /** In these bounds it is done, next to them and far from them it is refused. */
    private static void acts(String name, int kind, int least, int most, With call) {
        for (int n : new int[] {LOWEST, least - 1, most + 1, HIGHEST}) {
            refused(rich(name), name + " of " + n, kind, 0, x -> call.of(x, n));
        }
        for (int n : new int[] {least, most}) {
            Desk d = rich(name);
            d.due(name + " of " + n + " is done", call.of(d.x, n), 1);
            for (int k = 0; k < 6; k++) {
                d.due("status(" + k + ") behind " + name, d.x.status(k), 0);
            }
        }
    }

    private static void withoutCastle(String name, long due, Call call) {
        refused(empty(name + ", without a castle"), name, -1, due, call);
        Desk d = empty(name + ", behind a castle with a FAULT");
        d.castle("call 5;tower a mood 1 cheer 10;");
        refused(d, name, -1, due, call);
    }

    /** The castle at a ROUND, with nothing kept and nothing to undo. */
    private static Desk at(String sentence, int round) {
        Desk d = rich(sentence);
        d.at(round);
        return d;
    }

    /** So many ROUNDS come just at the ROUND that many below 999, and not one ROUND later. */
    private static void reaches(String name, int needed, Call call) {
        Desk d = at(name, 999 - needed);
        d.due(name + " has an answer", call.of(d.x) != -1, true);
        if (needed > 0) {
            Desk late = at(name, 1000 - needed);
            refused(late, name + ", one ROUND later", -1, -1, call);
            refused(at(name, 999), name + ", at ROUND 999", -1, -1, call);
        }
    }

    private static long bit(boolean b) {
        return b ? 1 : 0;
    }

    // ---- 1 to 9

    private static void newObject() {
        Desk d = empty("1: no castle, no towers");
        int[] has = {0, 0, -1, 0, 0, 0, 0, 0};
        for (int what = 0; what < 8; what++) {
            d.due("has(" + what + ")", d.x.has(what), has[what]);
        }
        for (int what = 0; what < 6; what++) {
            d.due("status(" + what + ")", d.x.status(what), 0);
        }
        d.due("the tape is empty", d.x.end(1), false);
        d.due("end(0)", d.x.end(0), true);
        d.due("letter(0, 0)", d.x.letter(0, 0), -1);
        d.due("tower(0, 0)", d.x.tower(0, 0), -1);
        d.due("kept(0, 0)", d.x.kept(0, 0), -1);
        d.due("octet(0)", d.x.octet(0), -1);
        d.due("image()", d.x.image(), 4);
    }

    private static void feeds() {
        Desk d = empty("2: NONE, refused (0), if there would be more than 1600");
        for (int k = 1; k <= 79; k++) {
            d.due("feed " + k, d.x.feed(k, 0, -1, LOWEST, HIGHEST), 20 * k);
        }
        d.due("end(1580)", d.x.end(1580), true);
        d.due("1600 and no more", d.x.feed(0, 0, 0, 0, 0), 1600);
        refused(d, "feed to 1620", 0, -1, x -> x.feed(0, 0, 0, 0, 0));
        d.due("it stays full", d.x.end(1600), true);
        d.due("end(1581)", d.x.end(1581), true);
        refused(d, "feed to 1601", 0, -1, x -> x.feed(0, 0, 0, 0, 0));
        d.due("1581 stay", d.x.end(1582), false);
        d.due("end(1579)", d.x.end(1579), true);
        d.due("feed to 1599", d.x.feed(0, 0, 0, 0, 0), 1599);
        Desk e = empty("2: of each number the highest first");
        e.x.feed(0x63616c6c, 0x20353b74, 0x6f776572, 0x207a206d, 0x6f6f6420);
        e.x.feed(0x33206368, 0x65657220, 0x343b2020, 0x20202020, 0x20202020);
        e.due("castle()", e.x.castle(), 2);
        e.due("tower(0, 0)", e.x.tower(0, 0), 3);
        e.due("tower(0, 1)", e.x.tower(0, 1), 4);
        e.x.feed(0xff636c6c, 0, 0, 0, 0);
        e.due("a byte of 255 is no letter", e.x.castle(), -1);
        e.due("fault(1)", e.x.fault(1), 0);
    }

    private static void ends() {
        Desk d = empty("3: false, refused (0), if it has not so many, or n is below 0");
        refused(d, "end(1) of an empty tape", 0, 0, x -> bit(x.end(1)));
        d.due("end(0) of an empty tape", d.x.end(0), true);
        d.x.feed(0x63616c6c, 0x20353b20, 0, 0, 0);
        refused(d, "end(21)", 0, 0, x -> bit(x.end(21)));
        refused(d, "end(-1)", 0, 0, x -> bit(x.end(-1)));
        refused(d, "end(lowest)", 0, 0, x -> bit(x.end(LOWEST)));
        refused(d, "end(highest)", 0, 0, x -> bit(x.end(HIGHEST)));
        d.due("end(20), all of them", d.x.end(20), true);
        d.due("end(8)", d.x.end(8), true);
        refused(d, "end(9), as 8 are left", 0, 0, x -> bit(x.end(9)));
        d.due("the first 8 alone", d.x.castle(), 1);
    }

    private static void castles() {
        Desk d = rich("4: without one all is as at first, nothing is KEPT, SEEN or can be undone; the seed stays; the tape goes");
        d.due("kept ahead of it", d.x.has(5), 2);
        d.due("seen ahead of it", d.x.has(6), 1);
        d.due("to be undone ahead of it", d.x.has(7), 2);
        d.x.end(1);
        d.due("castle()", d.castle(RICH), 8);
        int[] has = {3, 0, 9, 1, 19, 0, 0, 0};
        for (int what = 0; what < 8; what++) {
            d.due("has(" + what + ")", d.x.has(what), has[what]);
        }
        d.due("the cheer is as at first", d.x.tower(1, 1), 0);
        d.due("undo()", d.x.undo(), false);
        d.due("moods(0)", d.x.moods(0), 1023);
        d.due("kept(0, 0)", d.x.kept(0, 0), -1);
        d.due("the tape went", d.x.end(1), false);
        d.due("what was refused stays so", d.x.status(0), 2);
        Desk one = empty("4: the seed stays");
        one.x.seed(99);
        one.castle(RICH);
        Desk two = empty("4: the seed stays");
        two.castle(RICH);
        two.x.seed(99);
        two.castle("call 5;");
        two.castle(RICH);
        int colds = two.x.chance(50);
        one.due("chance(50)", one.x.chance(50), colds);
        one.due("all moods", one.x.has(4), two.x.has(4));
        d.due("it is 0 to 60 statements: one", d.castle("call 0;"), 1);
        d.due("no towers then", d.x.has(0), 0);
        d.due("none of before", d.x.tower(0, 0), -1);
    }

    private static void castlesWithFault() {
        for (String text : new String[] {"", "call 10;", "call 5", "call 5;yes x;", "call 5;says (((((((", "call 5;says 1;says 1;"}) {
            Desk d = rich("4: NONE, refused (1), with a FAULT (all stays)");
            d.put(text);
            String before = state(d.x);
            d.due("castle() of '" + text + "'", d.x.castle(), -1);
            d.due("status(1)", d.x.status(1), 1);
            d.due("fault(0)", d.x.fault(0) != 0, true);
            d.due("the tape went", d.x.end(1), false);
            d.askFault("often all", 0, -1);
            d.due("all stays", state(d.x).equals(before), true);
            d.due("undo()", d.x.undo(), true);
        }
    }

    private static void faults() {
        Desk d = empty("5: 0 without, and ahead of any; its place NONE without");
        d.due("fault(0)", d.x.fault(0), 0);
        d.due("fault(1)", d.x.fault(1), -1);
        d.castle("call 10;");
        d.due("fault(0) of a castle", d.x.fault(0), 2);
        d.due("fault(1) of a castle", d.x.fault(1), 5);
        for (int what : new int[] {LOWEST, -1, 2, HIGHEST}) {
            d.due("fault(" + what + ")", d.x.fault(what), -1);
        }
        d.castle(RICH);
        d.due("fault(0) without", d.x.fault(0), 0);
        d.due("fault(1) without", d.x.fault(1), -1);
        d.ask("often");
        d.due("fault(0) of a question", d.x.fault(0), 1);
        d.due("fault(1) of a question", d.x.fault(1), 5);
        d.x.see();
        d.x.on();
        d.due("see() and on() have none", d.x.fault(1), 5);
        d.ask("often all");
        d.due("fault(0) without", d.x.fault(0), 0);
        d.due("fault(1) without", d.x.fault(1), -1);
        d.ask("");
        d.due("fault(1) at 0", d.x.fault(1), 0);
        d.castle("");
        d.due("fault(0) of the latest", d.x.fault(0), 1);
        d.castle(RICH);
        d.due("fault(0) of the latest", d.x.fault(0), 0);
    }

    private static void hasAndOthers() {
        bounded("6: has(what), NONE for others", 0, 7, (x, n) -> x.has(n));
        Desk d = empty("6: the last tone (NONE without a castle)");
        d.due("has(2)", d.x.has(2), -1);
        d.castle("call 5");
        d.due("has(2) behind a castle with a fault", d.x.has(2), -1);
        d.castle("call 0;");
        d.due("has(2)", d.x.has(2), 0);
        d.due("has(0)", d.x.has(0), 0);
        d.due("has(3)", d.x.has(3), 0);
        d.due("has(4)", d.x.has(4), 0);
        d.castle("call 5;tower a mood 9 cheer 0;tower b mood 9 cheer 0;tower c mood 9 cheer 0;tower d mood 9 cheer 0;"
            + "tower e mood 9 cheer 0;tower f mood 9 cheer 0;tower g mood 9 cheer 0;tower h mood 9 cheer 0;yes a;yes h;");
        d.due("has(0)", d.x.has(0), 8);
        d.due("has(3)", d.x.has(3), 2);
        d.due("has(4)", d.x.has(4), 72);
    }

    private static void letters() {
        bounded("7: letter(tower, 0), NONE when there is none such", 0, 2, (x, n) -> x.letter(n, 0));
        bounded("7: letter(0, k), k 0 .. 5", 0, 5, (x, n) -> x.letter(0, n));
        withoutCastle("letter(0, 0)", -1, x -> x.letter(0, 0));
        Desk d = empty("7: 1 .. 26; 0 behind it");
        d.castle("call 5;tower az mood 1 cheer 1;tower zyxwvu mood 1 cheer 1;");
        int[] one = {1, 26, 0, 0, 0, 0};
        int[] two = {26, 25, 24, 23, 22, 21};
        for (int k = 0; k < 6; k++) {
            d.due("letter(0, " + k + ")", d.x.letter(0, k), one[k]);
            d.due("letter(1, " + k + ")", d.x.letter(1, k), two[k]);
        }
        d.castle("call 5;tower b mood 1 cheer 1;tower c mood 1 cheer 1;");
        d.castle("call 5;tower d mood 1 cheer 1;tower e mood 1 cheer 1;");
        d.due("no letters of a castle of before", d.x.letter(1, 1), 0);
    }

    private static void towers() {
        bounded("8: tower(tower, 0), NONE when there is none such", 0, 2, (x, n) -> x.tower(n, 0));
        bounded("8: tower(0, what), NONE for others", 0, 2, (x, n) -> x.tower(0, n));
        withoutCastle("tower(0, 0)", -1, x -> x.tower(0, 0));
    }

    private static void keptOnes() {
        bounded("9: kept(k, 0), NONE when there is none such", 0, 1, (x, n) -> x.kept(n, 0));
        bounded("9: kept(0, what), NONE for others", 0, 2, (x, n) -> x.kept(0, n));
        withoutCastle("kept(0, 0)", -1, x -> x.kept(0, 0));
        Desk d = empty("9: the k-th from the oldest on");
        d.castle(RICH);
        d.due("nothing is kept at first", d.x.kept(0, 0), -1);
        d.x.rounds(100);
        d.due("the first one told", d.x.kept(0, 0), 60);
        d.due("the last one told", d.x.kept(39, 0), 99);
        d.due("one more", d.x.kept(40, 0), -1);
    }

    // ---- 10 to 14

    private static void tones() {
        bounded("10: tone(tower, 0), NONE when there is none such", 0, 2, (x, n) -> x.tone(n, 0));
        bounded("10: tone(0, round), 0 .. 60", 0, 60, (x, n) -> x.tone(0, n));
        withoutCastle("tone(0, 0)", -1, x -> x.tone(0, 0));
        reaches("10: tone(0, 0), NONE beyond ROUND 999", 1, x -> x.tone(0, 0));
        reaches("10: tone(0, 1), NONE beyond ROUND 999", 2, x -> x.tone(0, 1));
        reaches("10: tone(2, 60), NONE beyond ROUND 999", 61, x -> x.tone(2, 60));
        Desk d = empty("10: 0 the next one");
        d.castle("call 9;tower a mood 9 cheer 0;says round/10;");
        d.due("tone(0, 0)", d.x.tone(0, 0), 0);
        d.due("tone(0, 9)", d.x.tone(0, 9), 0);
        d.due("tone(0, 10)", d.x.tone(0, 10), 1);
        d.due("tone(0, 59)", d.x.tone(0, 59), 5);
        d.due("tone(0, 60)", d.x.tone(0, 60), 6);
        d.x.rounds(10);
        d.due("tone(0, 0) behind ten", d.x.tone(0, 0), 1);
    }

    private static void moodsAhead() {
        bounded("11: mood(tower, 0), NONE when there is none such", 0, 2, (x, n) -> x.mood(n, 0));
        bounded("11: mood(0, n), 0 .. 60", 0, 60, (x, n) -> x.mood(0, n));
        withoutCastle("mood(0, 0)", -1, x -> x.mood(0, 0));
        reaches("11: mood(0, 0) at ROUND 999", 0, x -> x.mood(0, 0));
        reaches("11: mood(0, 1), NONE when n can't be", 1, x -> x.mood(0, 1));
        reaches("11: mood(2, 60), NONE when n can't be", 60, x -> x.mood(2, 60));
        Desk d = empty("11: behind n ROUNDS AHEAD");
        d.castle("call 9;tower a mood 7 cheer 0;feels (round+1)/10;");
        d.due("mood(0, 0), as now", d.x.mood(0, 0), 7);
        d.due("mood(0, 1)", d.x.mood(0, 1), 0);
        d.due("mood(0, 9)", d.x.mood(0, 9), 0);
        d.due("mood(0, 10)", d.x.mood(0, 10), 1);
        d.due("mood(0, 60)", d.x.mood(0, 60), 6);
    }

    private static void doubtsAhead() {
        bounded("12: doubts(round), 0 .. 60", 0, 60, (x, n) -> x.doubts(n));
        withoutCastle("doubts(0)", -1, x -> x.doubts(0));
        reaches("12: doubts(0), NONE beyond ROUND 999", 1, x -> x.doubts(0));
        reaches("12: doubts(60), NONE beyond ROUND 999", 61, x -> x.doubts(60));
        Desk e = empty("12: in the ROUND AHEAD of a number");
        e.castle("call 9;tower a mood 9 cheer 0;tower b mood 9 cheer 0;says 4+59*place-round;");
        // a is doubtful from number 1 on, b from number 60 on
        e.due("doubts(0)", e.x.doubts(0), 0);
        e.due("doubts(1)", e.x.doubts(1), 1);
        e.due("doubts(59)", e.x.doubts(59), 1);
        e.due("doubts(60)", e.x.doubts(60), 2);
        e.x.rounds(1);
        e.due("doubts(0) in the next ROUND", e.x.doubts(0), 1);
        Desk d = empty("12: of a castle without towers");
        d.castle("call 0;");
        d.due("doubts(0)", d.x.doubts(0), 0);
        d.due("doubts(60)", d.x.doubts(60), 0);
    }

    private static void fires() {
        withoutCastle("fire()", -1, x -> x.fire());
        reaches("13: fire() at ROUND 999", 1, x -> x.fire());
        Desk d = empty("13: the first ROUND AHEAD (0 .. 60) with a FIRE; NONE without");
        for (int number : new int[] {0, 1, 59, 60, 61}) {
            d.castle("call 9;tower a mood 9 cheer 0;says 9-9*min(1,round/" + Math.max(1, number) + "+1-min(1," + number + "));fires 1;");
            d.due("fire() in number " + number, d.x.fire(), number <= 60 ? number : -1);
        }
        d.castle("call 9;tower a mood 9 cheer 0;fires 1;");
        d.due("fire() without", d.x.fire(), -1);
        d.castle("call 9;tower a mood 9 cheer 0;says 9-round/998*9;fires 1;");
        d.at(990);
        d.due("the last ROUND that comes", d.x.fire(), 8);
        d.castle("call 9;tower a mood 9 cheer 0;says 9-round/999*9;fires 1;");
        d.at(990);
        d.due("beyond it", d.x.fire(), -1);
    }

    private static void settling() {
        bounded("14: settles(what), NONE for others", 0, 1, (x, n) -> x.settles(n));
        withoutCastle("settles(0)", -1, x -> x.settles(0));
        withoutCastle("settles(1)", -1, x -> x.settles(1));
        reaches("14: settles(0) at ROUND 999", 1, x -> x.settles(0));
        reaches("14: settles(1) at ROUND 999", 1, x -> x.settles(1));
    }

    // ---- 15 to 23

    private static void cheered() {
        bounded("15: cheered(n), 1 .. 30", 1, 30, (x, n) -> x.cheered(n));
        withoutCastle("cheered(1)", -1, x -> x.cheered(1));
        reaches("15: cheered(1), NONE when n can't be", 1, x -> x.cheered(1));
        reaches("15: cheered(30), NONE when n can't be", 30, x -> x.cheered(30));
    }

    private static void sighs() {
        bounded("16: sighs(n), 1 .. 30", 1, 30, (x, n) -> x.sighs(n));
        withoutCastle("sighs(1)", -1, x -> x.sighs(1));
        reaches("16: sighs(1), NONE when n can't be", 1, x -> x.sighs(1));
        reaches("16: sighs(30), NONE when n can't be", 30, x -> x.sighs(30));
    }

    private static void better() {
        bounded("17: better(n, 0), 1 .. 30", 1, 30, (x, n) -> x.better(n, 0));
        bounded("17: better(n, 1), 1 .. 30", 1, 30, (x, n) -> x.better(n, 1));
        bounded("17: better(1, what), NONE for others", 0, 1, (x, n) -> x.better(1, n));
        for (int what = 0; what < 2; what++) {
            int which = what;
            withoutCastle("better(1, " + what + ")", -1, x -> x.better(1, which));
            reaches("17: better(1, " + what + "), NONE when n can't be", 1, x -> x.better(1, which));
            reaches("17: better(30, " + what + "), NONE when n can't be", 30, x -> x.better(30, which));
        }
        Desk d = empty("17: NONE when none is better");
        d.castle("call 9;tower a mood 9 cheer 0;");
        d.due("better(30, 0)", d.x.better(30, 0), -1);
        d.due("better(30, 1)", d.x.better(30, 1), -1);
        d.castle("call 9;");
        d.due("better(30, 0) without towers", d.x.better(30, 0), -1);
        d.due("better(30, 1) without towers", d.x.better(30, 1), -1);
    }

    private static void placed() {
        bounded("18: placed(n, 0), 1 .. 30", 1, 30, (x, n) -> x.placed(n, 0));
        bounded("18: placed(n, 2), 1 .. 30", 1, 30, (x, n) -> x.placed(n, 2));
        bounded("18: placed(1, what), NONE for others", 0, 2, (x, n) -> x.placed(1, n));
        for (int what = 0; what < 3; what++) {
            int which = what;
            withoutCastle("placed(1, " + what + ")", -1, x -> x.placed(1, which));
            reaches("18: placed(1, " + what + "), NONE when n can't be", 1, x -> x.placed(1, which));
            reaches("18: placed(30, " + what + "), NONE when n can't be", 30, x -> x.placed(30, which));
        }
        Desk d = empty("18: NONE when none is better");
        d.castle("call 9;tower a mood 9 cheer 0;tower b mood 9 cheer 0;");
        for (int what = 0; what < 3; what++) {
            d.due("placed(30, " + what + ")", d.x.placed(30, what), -1);
        }
        d.castle("call 9;tower a mood 1 cheer 0;tower b mood 1 cheer 0;");
        for (int what = 0; what < 3; what++) {
            d.due("placed(30, " + what + ") of like ones", d.x.placed(30, what), -1);
        }
    }

    private static void games() {
        bounded("19: game(what), NONE for others", 0, 1, (x, n) -> x.game(n));
        withoutCastle("game(0)", -1, x -> x.game(0));
        withoutCastle("game(1)", -1, x -> x.game(1));
        reaches("19: game(0), NONE beyond ROUND 999", 1, x -> x.game(0));
        reaches("19: game(1), NONE beyond ROUND 999", 1, x -> x.game(1));
    }

    private static void rules() {
        bounded("20: rule(k, 1), 1 .. 8", 1, 8, (x, n) -> x.rule(n, 1));
        bounded("20: rule(1, n), 1 .. 60", 1, 60, (x, n) -> x.rule(1, n));
        withoutCastle("rule(1, 1)", -1, x -> x.rule(1, 1));
        reaches("20: rule(1, 1), NONE when these can't be", 1, x -> x.rule(1, 1));
        reaches("20: rule(8, 1), NONE when these can't be", 1, x -> x.rule(8, 1));
        reaches("20: rule(1, 60), NONE when these can't be", 60, x -> x.rule(1, 60));
    }

    private static void unseen(String name, int... bytes) {
        Desk d = rich("21: NONE, refused (1), all staying, when it is none such");
        d.put(bytes);
        refused(d, "see() of " + name, 1, -1, x -> x.see());
        d.due("the tape went", d.x.end(1), false);
    }

    private static void sees() {
        unseen("no row");
        unseen("one byte", 0);
        unseen("two bytes", 0, 0);
        unseen("four bytes", 0, 0, 0, 0);
        unseen("five bytes", 0, 0, 0, 0, 0);
        unseen("47 bytes", new int[47]);
        unseen("49 bytes", new int[49]);
        unseen("17 rows", new int[51]);
        unseen("ROUND 31", 31, 0, 0);
        unseen("ROUND 255", 255, 0, 0);
        unseen("TOWER 3", 0, 3, 0);
        unseen("TOWER 255", 0, 255, 0);
        unseen("tone 10", 0, 0, 10);
        unseen("tone 255", 0, 0, 255);
        unseen("a second row", 0, 0, 0, 31, 0, 0);
        unseen("a third row", 0, 0, 0, 0, 0, 0, 0, 0, 10);
        Desk d = rich("21: 1 to 16 rows of three bytes: how many rows");
        d.due("one row", d.see(0, 0, 0), 1);
        d.due("all at their most", d.see(30, 2, 9), 1);
        d.due("15 rows", d.see(new int[45]), 15);
        d.due("16 rows", d.see(new int[48]), 16);
        d.due("has(6)", d.x.has(6), 16);
        d.due("fewer rows", d.see(0, 0, 1), 1);
        d.due("has(6)", d.x.has(6), 1);
        d.due("the tape went", d.x.end(1), false);
        d.due("nothing was refused", d.x.status(1), 0);
        int[] last = new int[48];
        last[47] = 5;
        d.see(last);
        d.due("the 16th row counts", d.x.moods(0), 0);
        last[45] = 30;
        last[47] = 0;
        d.see(last);
        d.due("the 16th row alone is far", d.x.moods(0), 1);
        Desk e = empty("21: without a castle");
        e.put(0, 0, 0);
        refused(e, "see()", 1, -1, x -> x.see());
        e.castle("call 5;");
        e.put(0, 0, 0);
        refused(e, "see() without towers", 1, -1, x -> x.see());
    }

    private static void moodBits() {
        bounded("22: moods(tower), NONE when there is none such", 0, 2, (x, n) -> x.moods(n));
        withoutCastle("moods(0)", -1, x -> x.moods(0));
        Desk d = empty("22: all, if nothing is");
        d.castle(RICH);
        d.due("moods(0)", d.x.moods(0), 1023);
        d.at(999);
        d.due("moods(0) at ROUND 999", d.x.moods(0), 1023);
        Desk e = empty("22: ROUNDS beyond 999 are by none");
        e.castle(RICH);
        e.see(30, 0, 1);
        e.at(968);
        e.due("number 30 is ROUND 998", e.x.moods(0), 2);
        e.at(969);
        e.due("number 30 would be ROUND 999", e.x.moods(0), 0);
        e.see(0, 0, 1);
        e.at(998);
        e.due("number 0 is ROUND 998", e.x.moods(0), 2);
        e.at(999);
        e.due("number 0 would be ROUND 999", e.x.moods(0), 0);
        e.at(998);
        e.see(0, 0, 1, 1, 0, 1);
        e.due("one of the rows is beyond", e.x.moods(0), 0);
    }

    private static void telling() {
        for (int what = 0; what < 3; what++) {
            int which = what;
            bounded("23: tells(tower, " + what + "), NONE when there is none such", 0, 2, (x, n) -> x.tells(n, which));
            withoutCastle("tells(0, " + what + ")", -1, x -> x.tells(0, which));
            reaches("23: tells(0, " + what + "), NONE when no ROUND comes", 1, x -> x.tells(0, which));
            Desk d = rich("23: NONE without a MOOD");
            d.see(0, 1, 0);
            d.due("no mood of 0", d.x.moods(0), 0);
            refused(d, "tells(0, " + what + ")", -1, -1, x -> x.tells(0, which));
            d.see(0, 0, 0);
            d.due("tells(0, " + what + ") of one mood", d.x.tells(0, which), which == 2 ? 1 : 0);
        }
        bounded("23: tells(0, what), NONE for others", 0, 2, (x, n) -> x.tells(0, n));
        Desk d = empty("23: the ROUNDS that come alone");
        d.castle("call 9;tower a mood 5 cheer 0;says mood*(round/998);");
        d.at(968);
        d.due("number 30 is ROUND 998", d.x.tells(0, 0), 30);
        d.at(997);
        d.due("number 1 is ROUND 998", d.x.tells(0, 0), 1);
        d.castle("call 9;tower a mood 5 cheer 0;says mood*(round/999);");
        d.at(997);
        d.due("ROUND 999 tells nothing", d.x.tells(0, 2), 10);
    }

    // ---- 24 to 30

    private static void cheers() {
        acts("24: cheer(tower, 5)", 2, 0, 2, (x, n) -> bit(x.cheer(n, 5)));
        acts("24: cheer(1, cheer), 0 .. 9", 2, 0, 9, (x, n) -> bit(x.cheer(1, n)));
        refused(rich("24"), "cheer(1, 3), when it is that", 2, 0, x -> bit(x.cheer(1, 3)));
        refused(rich("24"), "cheer(0, 0), when it is that", 2, 0, x -> bit(x.cheer(0, 0)));
        refused(empty("24"), "cheer(0, 1) without a castle", 2, 0, x -> bit(x.cheer(0, 1)));
        Desk d = rich("24: a TOWER's cheer is so");
        d.due("cheer(2, 9)", d.x.cheer(2, 9), true);
        d.due("tower(2, 1)", d.x.tower(2, 1), 9);
        d.due("cheer(2, 9) once more", d.x.cheer(2, 9), false);
        d.due("cheer(2, 0)", d.x.cheer(2, 0), true);
        d.due("tower(2, 1)", d.x.tower(2, 1), 0);
        d.due("at ROUND 999, too", at("24", 999).x.cheer(0, 9), true);
    }

    private static void yesses() {
        for (int n : new int[] {LOWEST, -1, 3, HIGHEST}) {
            refused(rich("25"), "yes(" + n + ", 1)", 2, 0, x -> bit(x.yes(n, 1)));
            refused(rich("25"), "yes(" + n + ", 0)", 2, 0, x -> bit(x.yes(n, 0)));
        }
        for (int on : new int[] {LOWEST, -1, 2, HIGHEST}) {
            refused(rich("25"), "yes(0, " + on + ")", 2, 0, x -> bit(x.yes(0, on)));
            refused(rich("25"), "yes(2, " + on + ")", 2, 0, x -> bit(x.yes(2, on)));
        }
        refused(rich("25"), "yes(2, 1), when it does already", 2, 0, x -> bit(x.yes(2, 1)));
        refused(rich("25"), "yes(0, 0), when it does already", 2, 0, x -> bit(x.yes(0, 0)));
        refused(empty("25"), "yes(0, 1) without a castle", 2, 0, x -> bit(x.yes(0, 1)));
        Desk d = rich("25: a TOWER always says yes (on 1), or no more (0)");
        d.due("yes(0, 1)", d.x.yes(0, 1), true);
        d.due("tower(0, 2)", d.x.tower(0, 2), 1);
        d.due("it says 9", d.x.tone(0, 0), 9);
        d.due("yes(2, 0)", d.x.yes(2, 0), true);
        d.due("tower(2, 2)", d.x.tower(2, 2), 0);
        d.due("has(3)", d.x.has(3), 1);
        d.due("yes(0, 0)", d.x.yes(0, 0), true);
        d.due("it says 1", d.x.tone(0, 0), 1);
    }

    private static void changes() {
        for (int n : new int[] {LOWEST, -1, 3, HIGHEST}) {
            refused(rich("26"), "change(" + n + ", 0)", 2, 0, x -> bit(x.change(n, 0)));
            refused(rich("26"), "change(0, " + n + ")", 2, 0, x -> bit(x.change(0, n)));
            refused(rich("26"), "change(" + n + ", " + n + ")", 2, 0, x -> bit(x.change(n, n)));
        }
        for (int n = 0; n < 3; n++) {
            int one = n;
            refused(rich("26"), "change(" + n + ", " + n + "), when they are one", 2, 0, x -> bit(x.change(one, one)));
        }
        refused(empty("26"), "change(0, 1) without a castle", 2, 0, x -> bit(x.change(0, 1)));
        Desk d = rich("26: two TOWERS change who is there");
        d.due("change(0, 2), the first and the last", d.x.change(0, 2), true);
        d.due("tower(0, 0)", d.x.tower(0, 0), 9);
        d.due("tower(2, 0)", d.x.tower(2, 0), 1);
        d.due("change(2, 0)", d.x.change(2, 0), true);
        d.due("tower(0, 0)", d.x.tower(0, 0), 1);
        d.castle("call 5;tower a mood 5 cheer 5;tower b mood 5 cheer 5;");
        d.due("two that are alike", d.x.change(0, 1), true);
        d.due("it is an act", d.x.has(7), 1);
    }

    private static void rounds() {
        for (int n : new int[] {LOWEST, -1, 0, 101, HIGHEST}) {
            refused(rich("27"), "rounds(" + n + ")", 3, -1, x -> x.rounds(n));
        }
        refused(empty("27"), "rounds(1) without a castle", 3, -1, x -> x.rounds(1));
        Desk d = empty("27: n ROUNDS (1 .. 100): how many FIRES");
        d.castle(RICH);
        d.due("rounds(1)", d.x.rounds(1), 1);
        d.due("has(1)", d.x.has(1), 1);
        d.due("rounds(100)", d.x.rounds(100), 100);
        d.due("has(1)", d.x.has(1), 101);
        for (int n : new int[] {1, 2, 100}) {
            Desk e = at("27: when it can't be", 999 - n);
            refused(e, "rounds(" + (n + 1) + ") at " + (999 - n), 3, -1, x -> x.rounds(n + 1));
            e.due("rounds(" + n + ") at " + (999 - n), e.x.rounds(n), n);
            e.due("has(1)", e.x.has(1), 999);
            refused(e, "rounds(1) at 999", 3, -1, x -> x.rounds(1));
        }
        d.castle("call 5;");
        d.due("rounds(100) without towers", d.x.rounds(100), 0);
    }

    private static void chances() {
        for (int n : new int[] {LOWEST, -1, 0, 101, HIGHEST}) {
            refused(rich("28"), "chance(" + n + ")", 3, -1, x -> x.chance(n));
        }
        refused(empty("28"), "chance(1) without a castle", 3, -1, x -> x.chance(1));
        Desk d = empty("28: n ROUNDS by the seed (1 .. 100), one ACT: how many colds");
        d.castle("call 9;tower a mood 9 cheer 0;cold 100;");
        d.due("chance(1)", d.x.chance(1), 1);
        d.due("chance(100)", d.x.chance(100), 100);
        d.due("has(1)", d.x.has(1), 101);
        d.due("two acts", d.x.has(7), 2);
        d.due("undo()", d.x.undo(), true);
        d.due("all hundred at once", d.x.has(1), 1);
        d.due("the mood of then", d.x.tower(0, 0), 7);
        for (int n : new int[] {1, 2, 100}) {
            Desk e = at("28: when it can't be", 999 - n);
            refused(e, "chance(" + (n + 1) + ") at " + (999 - n), 3, -1, x -> x.chance(n + 1));
            e.due("chance(" + n + ") at " + (999 - n), e.x.chance(n) != -1, true);
            e.due("has(1)", e.x.has(1), 999);
            refused(e, "chance(1) at 999", 3, -1, x -> x.chance(1));
        }
        Desk one = empty("28: what is refused draws nothing");
        one.castle("call 9;tower a mood 9 cheer 0;tower b mood 9 cheer 0;tower c mood 9 cheer 0;cold 50;");
        one.x.chance(0);
        one.x.chance(101);
        Desk two = empty("28");
        two.castle("call 9;tower a mood 9 cheer 0;tower b mood 9 cheer 0;tower c mood 9 cheer 0;cold 50;");
        one.due("chance(5)", one.x.chance(5), two.x.chance(5));
        for (int t = 0; t < 3; t++) {
            one.due("tower(" + t + ", 0)", one.x.tower(t, 0), two.x.tower(t, 0));
        }
    }

    private static void undone() {
        refused(empty("29"), "undo() without a castle", 4, 0, x -> bit(x.undo()));
        Desk d = empty("29: false, refused (4), when none can be");
        d.castle(RICH);
        refused(d, "undo() of nothing", 4, 0, x -> bit(x.undo()));
        String first = state(d.x);
        d.x.cheer(0, 9);
        d.due("undo() of cheer", d.x.undo(), true);
        d.x.yes(0, 1);
        d.due("undo() of yes", d.x.undo(), true);
        d.x.change(0, 1);
        d.due("undo() of change", d.x.undo(), true);
        d.x.rounds(100);
        d.due("undo() of rounds", d.x.undo(), true);
        d.x.chance(100);
        d.due("undo() of chance", d.x.undo(), true);
        d.due("all is as at first", state(d.x).equals(first), true);
        refused(d, "undo() once more", 4, 0, x -> bit(x.undo()));
        Desk e = empty("29: the seed stays");
        e.castle("call 9;tower a mood 9 cheer 0;cold 50;");
        e.x.seed(12);
        e.x.chance(7);
        e.x.undo();
        int colds = e.x.chance(60);
        e.castle("call 9;tower a mood 9 cheer 0;cold 50;");
        e.x.seed(12);
        e.x.chance(7);
        e.due("chance(60) behind seven", e.x.chance(60), colds);
    }

    private static void seeds() {
        Desk d = rich("30: false, refused (5), when it is below 0");
        refused(d, "seed(-1)", 5, 0, x -> bit(x.seed(-1)));
        refused(d, "seed(lowest)", 5, 0, x -> bit(x.seed(LOWEST)));
        d.due("seed(0)", d.x.seed(0), true);
        d.due("seed(highest)", d.x.seed(HIGHEST), true);
        d.due("status(5)", d.x.status(5), 2);
        String cold = "call 9;tower a mood 9 cheer 0;tower b mood 9 cheer 0;tower c mood 9 cheer 0;cold 50;";
        Desk one = empty("30: it is 1 at first");
        one.castle(cold);
        Desk two = empty("30");
        two.castle(cold);
        two.x.seed(1);
        two.x.seed(-1);
        one.due("chance(9)", one.x.chance(9), two.x.chance(9));
        for (int t = 0; t < 3; t++) {
            one.due("tower(" + t + ", 0)", one.x.tower(t, 0), two.x.tower(t, 0));
        }
    }

    // ---- 31 to 35

    private static void asks() {
        Desk d = rich("31: NONE of first, last, when its TEST holds for none; NOTHING with a FAULT");
        d.answer("first mood=0", -1);
        d.answer("last mood=0", -1);
        d.answer("often mood=0", 0);
        d.answer("first mood=1", 0);
        d.answer("last mood=1", 0);
        d.due("no fault", d.x.fault(0), 0);
        d.due("NOTHING", d.ask("first mood"), AllIsWell.NOTHING);
        d.due("its fault", d.x.fault(0), 1);
        d.due("the tape went", d.x.end(1), false);
        d.answer("total 0-1", -3);
        d.due("the tape went", d.x.end(1), false);
        for (int k = 0; k < 6; k++) {
            d.due("no question is refused: status(" + k + ")", d.x.status(k), k == 0 ? 2 : 0);
        }
        Desk e = rich("31: all stays");
        String before = state(e.x);
        e.answer("total heard 30+tone+glad", 1 + 1 + 1 + 9 + 9 + 9 + 9 + 9 + 9);
        e.due("all stays", state(e.x).equals(before), true);
    }

    private static void asksWithoutCastle() {
        Desk d = empty("31: NOTHING, doing nothing else, without a castle");
        d.due("a question", d.ask("often all"), AllIsWell.NOTHING);
        d.due("fault(0)", d.x.fault(0), 0);
        d.due("a faulty one", d.ask("often"), AllIsWell.NOTHING);
        d.due("fault(0)", d.x.fault(0), 0);
        d.due("fault(1)", d.x.fault(1), -1);
        d.due("the tape went", d.x.feed(0, 0, 0, 0, 0), 20);
        d.x.end(0);
        d.castle("call 10;");
        d.due("a question", d.ask("often all"), AllIsWell.NOTHING);
        d.due("fault(0) is the castle's", d.x.fault(0), 2);
        d.due("fault(1) is the castle's", d.x.fault(1), 5);
        d.castle("call 9;");
        d.answer("often all", 0);
    }

    private static void images() {
        Desk d = empty("32: how many bytes");
        d.due("without a castle", d.x.image(), 4);
        int[] due = Desk.checked(0, 0, 0);
        for (int k = 0; k < 4; k++) {
            d.due("octet(" + k + ")", d.x.octet(k), due[k]);
        }
        StringBuilder text = new StringBuilder("call 9;");
        for (int n = 0; n <= 8; n++) {
            d.castle(text.toString());
            d.due("with " + n + " towers", d.x.image(), 4 + 3 * n);
            d.due("the last byte", d.x.octet(3 + 3 * n) != -1, true);
            d.due("one more", d.x.octet(4 + 3 * n), -1);
            text.append("tower ").append((char) ('a' + n)).append(" mood 1 cheer 1;");
        }
    }

    private static void octets() {
        Desk d = rich("33: NONE when there is none such");
        d.due("ahead of any image()", d.x.octet(0), -1);
        d.due("image()", d.x.image(), 13);
        for (int k : new int[] {LOWEST, -1, 13, 27, 28, HIGHEST}) {
            d.due("octet(" + k + ")", d.x.octet(k), -1);
        }
        for (int k = 0; k < 13; k++) {
            d.due("octet(" + k + ") is one", d.x.octet(k) >= 0 && d.x.octet(k) < 256, true);
        }
        d.x.rounds(1);
        d.due("of the latest image()", d.x.octet(1), 2);
        d.x.image();
        d.due("of the latest image()", d.x.octet(1), 3);
        d.castle("call 5;");
        d.due("a castle leaves it", d.x.octet(12) != -1, true);
        d.x.image();
        d.due("a shorter one", d.x.octet(3) != -1, true);
        d.due("a shorter one", d.x.octet(4), -1);
    }

    private static void ons() {
        Desk d = rich("34: true, all is as it tells, nothing is KEPT or can be undone");
        d.due("kept ahead of it", d.x.has(5), 2);
        d.due("on()", d.on(Desk.checked(3, 231, 9, 9, 9, 1, 0, 0, 0, 9, 0, 1)), true);
        int[] has = {3, 999, 9, 2, 18, 0, 1, 0};
        for (int what = 0; what < 8; what++) {
            d.due("has(" + what + ")", d.x.has(what), has[what]);
        }
        int[] towers = {9, 9, 1, 0, 0, 0, 9, 0, 1};
        for (int k = 0; k < 9; k++) {
            d.due("tower(" + k / 3 + ", " + k % 3 + ")", d.x.tower(k / 3, k % 3), towers[k]);
        }
        d.due("undo()", d.x.undo(), false);
        d.due("the tape went", d.x.end(1), false);
        d.due("all at their least", d.on(Desk.checked(0, 0, 0, 0, 0, 0, 0, 0, 0, 0, 0, 0)), true);
        d.due("has(1)", d.x.has(1), 0);
        d.due("has(3)", d.x.has(3), 0);
        d.due("status(5)", d.x.status(5), 0);
        d.castle("call 5;");
        d.due("without towers", d.on(Desk.checked(0, 7, 3)), true);
        d.due("has(2)", d.x.has(2), 3);
    }

    private static void noImage(String name, int... bytes) {
        Desk d = rich("34: false, refused (5), when it is none, all staying");
        d.put(bytes);
        refused(d, "on() of " + name, 5, 0, x -> bit(x.on()));
        d.due("the tape went", d.x.end(1), false);
    }

    private static void onsRefused() {
        int[] good = {1, 2, 9, 9, 9, 1, 9, 9, 1, 9, 9, 1};
        noImage("nothing");
        noImage("one byte", 157);
        noImage("no check", good);
        noImage("one byte more", java.util.Arrays.copyOf(Desk.checked(good), 14));
        noImage("no towers", Desk.checked(1, 2, 9));
        noImage("two towers", Desk.checked(java.util.Arrays.copyOf(good, 9)));
        noImage("four towers", Desk.checked(java.util.Arrays.copyOf(good, 15)));
        noImage("ROUND 1000", with(good, 0, 3, 1, 232));
        noImage("ROUND 1024", with(good, 0, 4, 1, 0));
        noImage("ROUND 65535", with(good, 0, 255, 1, 255));
        for (int k = 2; k < 12; k++) {
            noImage("one above in byte " + k, with(good, k, good[k] + 1, k, good[k] + 1));
            noImage("255 in byte " + k, with(good, k, 255, k, 255));
        }
        for (int k = 0; k < 12; k++) {
            int[] wrong = Desk.checked(good);
            wrong[k] = k < 2 ? wrong[k] + 1 : wrong[k] - 1;
            noImage("another byte " + k, wrong);
        }
        int[] wrong = Desk.checked(good);
        wrong[12] = (wrong[12] + 1) % 256;
        noImage("another check", wrong);
        Desk d = rich("34: on()");
        d.due("the good one", d.on(Desk.checked(good)), true);
        Desk e = empty("34: without a castle");
        e.put(Desk.checked(0, 0, 0));
        refused(e, "on()", 5, 0, x -> bit(x.on()));
        e.due("the tape went", e.x.end(1), false);
    }

    /** An image with two of its bytes put otherwise, and its check. */
    private static int[] with(int[] good, int one, int a, int two, int b) {
        int[] other = good.clone();
        other[one] = a;
        other[two] = b;
        return Desk.checked(other);
    }

    private static void statuses() {
        bounded("35: status(what), NONE for others", 0, 5, (x, n) -> x.status(n));
        Desk d = rich("35: how many were refused");
        for (int k = 1; k <= 3; k++) {
            d.x.end(-1);
            d.x.castle();
            d.x.see();
            d.x.cheer(0, 10);
            d.x.yes(0, 2);
            d.x.change(0, 0);
            d.x.rounds(0);
            d.x.chance(0);
            d.x.seed(-1);
            d.x.on();
            int[] due = {k, 2 * k, 3 * k, 2 * k, 0, 2 * k};
            for (int what = 0; what < 6; what++) {
                d.due("status(" + what + ") of " + k, d.x.status(what), due[what]);
            }
        }
        d.x.undo();
        d.x.undo();
        d.due("what was done is not refused", d.x.status(4), 0);
        d.x.undo();
        d.due("status(4)", d.x.status(4), 1);
    }

    /** All say 9 but the eighth one; the cheer of the others does nothing for it. */
    private static final String EIGHT = "call 9;tower a mood 9 cheer 0;tower b mood 9 cheer 0;tower c mood 9 cheer 0;tower d mood 9 cheer 0;"
        + "tower e mood 9 cheer 0;tower f mood 9 cheer 0;tower g mood 9 cheer 0;tower hhhhhh mood 2 cheer 1;says mood+cheer-sigh*5;fires 1;";

    private static void theEighthTower() {
        Desk d = empty("I: 8 TOWERS: the eighth one, in all calls");
        d.tell(EIGHT);
        d.due("letter(7, 5)", d.x.letter(7, 5), 8);
        d.due("tower(7, 0)", d.x.tower(7, 0), 2);
        d.due("tower(7, 1)", d.x.tower(7, 1), 1);
        d.due("tower(7, 2)", d.x.tower(7, 2), 0);
        d.due("tower(8, 0)", d.x.tower(8, 0), -1);
        d.due("tone(7, 60)", d.x.tone(7, 60), 3);
        d.due("mood(7, 60)", d.x.mood(7, 60), 2);
        d.due("doubts(60)", d.x.doubts(60), 1);
        d.due("fire()", d.x.fire(), 0);
        d.due("cheered(30)", d.x.cheered(30), 128);
        d.due("better(30, 0)", d.x.better(30, 0), 7);
        d.due("game(0)", d.x.game(0), 0);
        d.due("game(1)", d.x.game(1), 7);
        d.due("rule(1, 60)", d.x.rule(1, 60), 60);
        d.answer("total tone", 66);
        d.answer("first glad=2", 7);
        d.answer("last heard 30=3", 7);
        d.answer("last heard number=3", 7);
        d.answer("least mood", 2);
        d.due("image()", d.x.image(), 28);
        d.due("octet(24)", d.x.octet(24), 2);
        d.due("octet(25)", d.x.octet(25), 1);
        d.due("octet(26)", d.x.octet(26), 0);
        d.due("rounds(1)", d.x.rounds(1), 1);
        d.due("kept(0, 1)", d.x.kept(0, 1), 7);
        d.due("cheer(7, 2)", d.x.cheer(7, 2), true);
        d.due("cheer(8, 2)", d.x.cheer(8, 2), false);
        d.due("sighs(1), as it is well now", d.x.sighs(1), 128);
        d.due("yes(7, 1)", d.x.yes(7, 1), true);
        d.due("yes(8, 1)", d.x.yes(8, 1), false);
        d.due("has(3)", d.x.has(3), 1);
        d.due("change(0, 7)", d.x.change(0, 7), true);
        d.due("change(0, 8)", d.x.change(0, 8), false);
        d.due("tower(7, 0)", d.x.tower(7, 0), 9);
        d.due("change(7, 6)", d.x.change(7, 6), true);
        d.due("cheer(0, 0)", d.x.cheer(0, 0), true);
        d.due("placed(1, 0)", d.x.placed(1, 0), 0);
        d.due("placed(1, 1)", d.x.placed(1, 1), 7);
        int[] image = d.image();
        d.due("octet(26) of yes", image[26], 1);
        for (int k = 0; k < 6; k++) {
            d.due("undo()", d.x.undo(), true);
        }
        d.due("tower(7, 1)", d.x.tower(7, 1), 1);
        d.due("on()", d.on(image), true);
        d.due("tower(7, 2)", d.x.tower(7, 2), 1);
        d.due("has(3)", d.x.has(3), 1);
    }

    private static void theEighthFeels() {
        Desk d = empty("I: 8 TOWERS: what the eighth one feels");
        d.tell(EIGHT.replace("says mood+cheer-sigh*5", "says mood*(round/30)+place"));
        for (int mood = 0; mood <= 2; mood++) {
            d.due("see()", d.see(30, 7, 7 + mood), 1);
            d.due("moods(7)", d.x.moods(7), mood < 2 ? 1 << mood : 1020);
            d.due("moods(6)", d.x.moods(6), mood == 2 ? 1023 : 0);
        }
        d.due("see() of TOWER 8", d.see(0, 8, 7), -1);
        d.tell(EIGHT.replace("says mood+cheer-sigh*5", "says mood*(round/30)*(place/7)"));
        d.due("tells(7, 0)", d.x.tells(7, 0), 30);
        d.due("tells(7, 1)", d.x.tells(7, 1), 7);
        d.due("tells(7, 2)", d.x.tells(7, 2), 1);
        d.due("tells(6, 2)", d.x.tells(6, 2), 10);
        d.due("tells(8, 0)", d.x.tells(8, 0), -1);
        d.due("moods(8)", d.x.moods(8), -1);
        d.tell(EIGHT.replace("says mood+cheer-sigh*5", "says mood*(1-place/7)+heard*(place/7)*round"));
        // of the first one's moods the first one tells; the eighth one says what the seventh does, in round 1
        d.due("see() of two moods", d.see(1, 7, 9, 0, 0, 4), 2);
        d.due("moods(0)", d.x.moods(0), 1 << 4);
        d.due("moods(6)", d.x.moods(6), 0);
    }
}
