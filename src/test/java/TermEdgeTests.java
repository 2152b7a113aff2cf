import java.util.Arrays;

/** Terms I to IV as what is so: each sentence that names a boundary, on both sides of it. */
public final class TermEdgeTests {
    public static void main(String[] args) {
        theMillion();
        theMillionInSays();
        quotients();
        untoldSums();
        roundNought();
        saidFromNoughtToNine();
        feltFromNoughtToNine();
        towersOfYes();
        belowWell();
        rowsOfFires();
        notRoundTheRing();
        roundAtMost();
        noSigh();
        changesKeepYes();
        coldsBelow();
        twoLessOfMood();
        drawsWithoutTowers();
        drawsBySeed();
        lastTwenty();
        keptRows();
        lastForty();
        aheadWithoutDraws();
        settlesBehind();
        settlesWithinSixty();
        cheeredThree();
        cheeredFewest();
        cheeredFromNowOn();
        sighsThree();
        sighsFewest();
        sighsInTheNextRoundAlone();
        yesIfFewer();
        placedIfFewer();
        gameNoneAhead();
        rulesOfRows();
        seenRounds();
        moodsOfTen();
        tellingRounds();
        firstAndLast();
        withoutTowers();
        mostAndLeast();
        heardNumbers();
        saidInTheNextRound();
        imageBytes();
        imageCheck();
        Desk.close("TermEdgeTests");
    }

    // ---- what the tests share

    /** Towers a, b, .. with these moods and no cheer. */
    private static String ring(int call, int... moods) {
        StringBuilder s = new StringBuilder("call " + call + ";");
        for (int t = 0; t < moods.length; t++) {
            s.append("tower ").append((char) ('a' + t)).append(" mood ").append(moods[t]).append(" cheer 0;");
        }
        return s.toString();
    }

    private static Desk with(String sentence, String castle) {
        Desk d = new Desk(sentence);
        d.tell(castle);
        return d;
    }

    // ---- I, sums

    private static void theMillion() {
        Desk d = with("I: each sum, difference, product above 10 to the 6 is that, below -10 to the 6 likewise", ring(5, 5));
        d.answer("total 1000*1000", 1000000);
        d.answer("total 999*1001", 999999);
        d.answer("total 999*1001+1", 1000000);
        d.answer("total 999*1001+2", 1000000);
        d.answer("total 1000*1000+1-1", 999999);
        d.answer("total 9999*9999", 1000000);
        d.answer("total 101*9901", 1000000);
        d.answer("total 1001*1000-1000*1000", 0);
        d.answer("total 0-1000*1000", -1000000);
        d.answer("total 0-999*1001", -999999);
        d.answer("total 0-999*1001-1", -1000000);
        d.answer("total 0-999*1001-2", -1000000);
        d.answer("total 0-1000*1000-1+1", -999999);
        d.answer("total 1000*1000-(0-1)-1", 999999);
        d.answer("total 0-1000*1000+(0-1)+1", -999999);
        d.answer("total (0-1000)*1000", -1000000);
        d.answer("total (0-1001)*1000+1", -999999);
        d.answer("total (0-9999)*9999", -1000000);
        d.answer("total (0-1001)*(0-1000)-1", 999999);
        d.answer("total 1000*1000*1000*1000*1000", 1000000);
        d.answer("total (0-1000*1000)*1000*1000", -1000000);
        d.answer("total 1000*1000*1000*1000/1000", 1000);
        d.tell(ring(5, 5, 5, 5));
        d.answer("total 1000*1000", 3000000);
        d.answer("total 0-9999*9999", -3000000);
    }

    private static void theMillionInSays() {
        Desk d = new Desk("I: the 10 to the 6 in says and feels");
        d.tell(ring(5, 5) + "says 1000*1000+7-1000*1000;feels 3+0-1000*1000-7+1000*1000;");
        d.due("tone(0, 0)", d.x.tone(0, 0), 0);
        d.due("mood(0, 1)", d.x.mood(0, 1), 0);
        d.tell(ring(5, 5) + "says 999*1000+7-999*1000;feels 3-999*1000+999*1000;");
        d.due("tone(0, 0)", d.x.tone(0, 0), 7);
        d.due("mood(0, 1)", d.x.mood(0, 1), 3);
    }

    private static void quotients() {
        Desk d = with("I: / gives the greatest whole number not above, by 0 it gives 0", ring(5, 5));
        d.answer("total 6/3", 2);
        d.answer("total 7/3", 2);
        d.answer("total 8/3", 2);
        d.answer("total 9/3", 3);
        d.answer("total (0-6)/3", -2);
        d.answer("total (0-7)/3", -3);
        d.answer("total 7/(0-3)", -3);
        d.answer("total 6/(0-3)", -2);
        d.answer("total (0-7)/(0-3)", 2);
        d.answer("total (0-1)/9999", -1);
        d.answer("total 1/9999", 0);
        d.answer("total 0/5", 0);
        d.answer("total 5/0", 0);
        d.answer("total (0-5)/0", 0);
        d.answer("total 0/0", 0);
        d.answer("total 5/(1-1)*3+4", 4);
        d.answer("total 7/2*2", 6);
        d.answer("total 9-4-3", 2);
        d.answer("total 100/10/5", 2);
        d.tell(ring(5, 5) + "says 9/heard*0+8/(mood-5)+4;feels 9/0+3;");
        d.due("by 0 in says", d.x.tone(0, 0), 4);
        d.due("by 0 in feels", d.x.mood(0, 1), 3);
        d.tell(ring(5, 5) + "says 9+(0-7)/2;feels 9+7/(0-2);");
        d.due("below 0 in says", d.x.tone(0, 0), 5);
        d.due("below 0 in feels", d.x.mood(0, 1), 5);
    }

    private static void untoldSums() {
        Desk d = new Desk("I: without: says is min(heard,mood+cheer)-sigh, feels is mood");
        d.tell("call 6;tower a mood 4 cheer 3;");
        d.due("what is heard is less", d.x.tone(0, 0), 6);
        d.tell("call 7;tower a mood 4 cheer 3;");
        d.due("both are alike", d.x.tone(0, 0), 7);
        d.tell("call 8;tower a mood 4 cheer 3;");
        d.due("mood and cheer are less", d.x.tone(0, 0), 7);
        d.due("the mood stays", d.x.mood(0, 60), 4);
        d.tell("call 4;tower a mood 4 cheer 0;fires 1;");
        d.due("a sigh takes one", d.x.sighs(1), 1);
        d.tell("call 5;tower a mood 5 cheer 0;fires 1;");
        d.due("a sigh takes but one", d.x.sighs(1), -1);
        d.tell("call 9;tower a mood 4 cheer 3;says 2;");
        d.due("feels untold beside says", d.x.mood(0, 5), 4);
        d.tell("call 9;tower a mood 4 cheer 3;feels 2;");
        d.due("says untold beside feels", d.x.tone(0, 1), 5);
    }

    // ---- II

    private static void roundNought() {
        Desk d = with("II: it is ROUND 0 at first; the last tone is that of the call", ring(7, 9, 9) + "says heard-1;");
        d.due("has(1)", d.x.has(1), 0);
        d.due("has(2)", d.x.has(2), 7);
        d.due("the first one hears the call", d.x.tone(0, 0), 6);
        d.due("the second one hears the first", d.x.tone(1, 0), 5);
        d.due("the first one hears the last one of before", d.x.tone(0, 1), 4);
        d.x.rounds(1);
        d.due("has(1)", d.x.has(1), 1);
        d.due("has(2)", d.x.has(2), 5);
        d.tell(ring(7));
        d.x.rounds(1);
        d.due("without towers the call stays the last tone", d.x.has(2), 7);
    }

    private static void saidFromNoughtToNine() {
        Desk d = new Desk("II: it says the SUM of says, 0 .. 9 (below is 0, above 9)");
        String[] sums = {"0-9999", "0-1", "0", "1", "8", "9", "10", "9999"};
        int[] tones = {0, 0, 0, 1, 8, 9, 9, 9};
        for (int k = 0; k < sums.length; k++) {
            d.tell(ring(5, 5, 5) + "says (1-place)*(" + sums[k] + ")+place*heard;");
            d.due("says " + sums[k], d.x.tone(0, 0), tones[k]);
            d.due("what is heard of " + sums[k], d.x.tone(1, 0), tones[k]);
        }
    }

    private static void feltFromNoughtToNine() {
        Desk d = new Desk("II: its mood is the SUM of feels, 0 .. 9");
        String[] sums = {"0-9999", "0-1", "0", "1", "8", "9", "10", "9999"};
        int[] moods = {0, 0, 0, 1, 8, 9, 9, 9};
        for (int k = 0; k < sums.length; k++) {
            d.tell(ring(5, 5) + "feels " + sums[k] + ";");
            d.due("feels " + sums[k], d.x.mood(0, 1), moods[k]);
            d.x.rounds(1);
            d.due("felt " + sums[k], d.x.tower(0, 0), moods[k]);
        }
    }

    private static void towersOfYes() {
        Desk d = with("II: a TOWER of yes says 9", ring(0, 0, 0, 0) + "yes b;says heard;feels tone-1;");
        d.due("no tower of yes", d.x.tone(0, 0), 0);
        d.due("one of yes", d.x.tone(1, 0), 9);
        d.due("it is heard", d.x.tone(2, 0), 9);
        d.due("it feels the tone that it said", d.x.mood(1, 1), 8);
        d.tell(ring(9, 9, 9) + "yes a;says mood-sigh*9;fires 1;");
        d.due("a sigh below it is none", d.x.sighs(1), 2);
    }

    private static void belowWell() {
        Desk d = new Desk("II: a tone below well is DOUBTFUL");
        for (int well = 1; well <= 9; well++) {
            d.tell(ring(9, well - 1, well) + "says mood;fires 1;well " + well + ";");
            d.due("well " + well + ": doubts(0)", d.x.doubts(0), 1);
            d.due("well " + well + ": rounds(1)", d.x.rounds(1), 1);
            d.due("well " + well + ": the place", d.x.kept(0, 1), 0);
        }
    }

    private static void rowsOfFires() {
        Desk d = new Desk("II: a FIRE, if as many TOWERS as fires tells, or more, one behind the other are DOUBTFUL");
        for (int fires = 1; fires <= 8; fires++) {
            for (int row = 0; row <= 8; row++) {
                int[] moods = new int[8];
                Arrays.fill(moods, 9);
                Arrays.fill(moods, 8 - row, 8, 1);
                d.x = new AllIsWell();
                d.tell(ring(9, moods) + "says mood;fires " + fires + ";");
                String name = "fires " + fires + ", a row of " + row + " to the last: ";
                d.due(name + "fire()", d.x.fire(), row >= fires ? 0 : -1);
                d.due(name + "rounds(1)", d.x.rounds(1), row >= fires ? 1 : 0);
            }
        }
        d.tell(ring(9, 1, 1, 9, 9) + "says mood;fires 2;");
        d.due("from place 0", d.x.fire(), 0);
        d.tell(ring(9, 1, 9, 1, 9, 1) + "says mood;fires 2;");
        d.due("not one behind the other", d.x.fire(), -1);
    }

    private static void notRoundTheRing() {
        Desk d = with("II: from place 0 to the last, not round the ring", ring(9, 1, 9, 1) + "says mood;fires 2;");
        d.due("fire()", d.x.fire(), -1);
        d.due("rule(2, 60)", d.x.rule(2, 60), 0);
        d.due("rounds(100)", d.x.rounds(100), 0);
        d.tell(ring(9, 1, 1, 9, 1, 1) + "says mood;fires 3;");
        d.due("fire()", d.x.fire(), -1);
        d.tell(ring(9, 9, 1, 1, 1, 9) + "says mood;fires 3;");
        d.due("fire() within", d.x.fire(), 0);
    }

    private static void roundAtMost() {
        Desk d = with("II: the ROUND is one more (999 at most)", ring(9, 1));
        d.at(997);
        d.due("rounds(1)", d.x.rounds(1), 0);
        d.due("has(1)", d.x.has(1), 998);
        d.due("chance(1)", d.x.chance(1), 0);
        d.due("has(1)", d.x.has(1), 999);
        d.due("rounds(1)", d.x.rounds(1), -1);
        d.due("chance(1)", d.x.chance(1), -1);
        d.due("has(1)", d.x.has(1), 999);
        d.due("undo()", d.x.undo(), true);
        d.due("has(1)", d.x.has(1), 998);
    }

    private static void noSigh() {
        Desk d = with("II: there is no SIGH, but where III tells of one", ring(9, 9, 9) + "says 9-sigh*9;fires 1;");
        d.due("tone(0, 0)", d.x.tone(0, 0), 9);
        d.due("doubts(0)", d.x.doubts(0), 0);
        d.due("fire()", d.x.fire(), -1);
        d.due("rule(1, 60)", d.x.rule(1, 60), 0);
        d.due("cheered(30)", d.x.cheered(30), 0);
        d.due("better(30, 0)", d.x.better(30, 0), -1);
        d.due("a sigh that is told of", d.x.sighs(1), 1);
        d.due("a sigh that is told of", d.x.game(0), 1);
        d.due("rounds(100)", d.x.rounds(100), 0);
        d.answer("total tone", 18);
    }

    private static void changesKeepYes() {
        Desk d = with("II: two TOWERS change who is there (mood, cheer; yes stays with the place)",
            "call 9;tower ann mood 1 cheer 2;tower bob mood 3 cheer 4;yes bob;");
        d.due("change(0, 1)", d.x.change(0, 1), true);
        d.due("tower(0, 0)", d.x.tower(0, 0), 3);
        d.due("tower(0, 1)", d.x.tower(0, 1), 4);
        d.due("tower(0, 2)", d.x.tower(0, 2), 0);
        d.due("tower(1, 0)", d.x.tower(1, 0), 1);
        d.due("tower(1, 1)", d.x.tower(1, 1), 2);
        d.due("tower(1, 2)", d.x.tower(1, 2), 1);
        d.due("change(1, 0)", d.x.change(1, 0), true);
        d.due("tower(0, 0)", d.x.tower(0, 0), 1);
    }

    /** The seed's next. */
    private static long next(long x) {
        return (1103515245L * x + 12345L) % 2147483648L;
    }

    private static void coldsBelow() {
        Desk d = new Desk("II: a DRAW of 100: below cold");
        for (int seed = 1; seed <= 40; seed++) {
            int draw = (int) (next(seed) / 64 % 100);
            d.x = new AllIsWell();
            d.tell(ring(9, 9) + "cold " + draw + ";");
            d.x.seed(seed);
            d.due("seed " + seed + ", a cold as drawn", d.x.chance(1), 0);
            d.due("the mood", d.x.tower(0, 0), 9);
            d.tell(ring(9, 9) + "cold " + (draw + 1) + ";");
            d.x.seed(seed);
            d.due("seed " + seed + ", a cold above it", d.x.chance(1), 1);
            d.due("the mood", d.x.tower(0, 0), 7);
        }
        d.tell(ring(9, 9) + "cold 0;");
        d.due("cold 0", d.x.chance(100), 0);
        d.tell(ring(9, 9) + "cold 100;");
        d.due("cold 100", d.x.chance(100), 100);
    }

    private static void twoLessOfMood() {
        Desk d = new Desk("II: the mood there is 2 less (0 at least)");
        int[] behind = {0, 0, 0, 1, 2, 3, 4, 5, 6, 7};
        for (int mood = 0; mood <= 9; mood++) {
            d.tell(ring(9, mood) + "cold 100;");
            d.due("chance(1) of mood " + mood, d.x.chance(1), 1);
            d.due("the mood of " + mood, d.x.tower(0, 0), behind[mood]);
        }
        d.tell(ring(9, 9) + "cold 100;");
        d.x.chance(1);
        d.due("ahead of the round: it says the mood that is left", d.x.has(2), 7);
        for (int mood = 0; mood <= 5; mood++) {
            d.tell(ring(9, mood) + "says mood+4;cold 100;");
            d.x.chance(1);
            d.due("never below 0, of mood " + mood, d.x.has(2), 4 + behind[mood]);
        }
    }

    private static void drawsWithoutTowers() {
        Desk d = new Desk("II: below cold, if there are TOWERS, a DRAW of these");
        d.tell("call 9;cold 100;");
        d.x.seed(3);
        d.due("without towers no cold", d.x.chance(2), 0);
        // two draws are gone, and no more
        cold(d, next(next(3)));
        d.tell(ring(9, 9, 9, 9, 9, 9, 9, 9) + "cold 0;");
        d.x.seed(3);
        d.due("cold 0, but drawn", d.x.chance(2), 0);
        cold(d, next(next(3)));
        d.tell(ring(9, 9, 9, 9, 9, 9, 9, 9) + "cold 100;");
        d.x.seed(3);
        d.due("each round two draws", d.x.chance(2), 2);
        cold(d, next(next(next(next(3)))));
    }

    /** One cold of seven towers is as the seed tells that is due. */
    private static void cold(Desk d, long seed) {
        d.tell(ring(9, 9, 9, 9, 9, 9, 9, 9) + "cold 100;");
        d.due("chance(1)", d.x.chance(1), 1);
        int due = (int) (next(next(seed)) / 64 % 7);
        for (int t = 0; t < 7; t++) {
            d.due("the mood of " + t, d.x.tower(t, 0), t == due ? 7 : 9);
        }
    }

    private static void drawsBySeed() {
        Desk d = new Desk("II: x becomes (1103515245 x + 12345) mod 2 to the 31; floor(x / 64) mod m");
        for (int seed : new int[] {0, 1, 2, 63, 64, 65536, 1 << 30, Integer.MAX_VALUE - 1, Integer.MAX_VALUE}) {
            d.x = new AllIsWell();
            d.x.seed(seed);
            cold(d, seed);
        }
        d.x = new AllIsWell();
        cold(d, 1);
    }

    private static void lastTwenty() {
        Desk d = new Desk("II: the last 20 can be undone");
        for (int acts : new int[] {19, 20, 21, 45}) {
            d.x = new AllIsWell();
            d.tell(ring(9, 5));
            for (int k = 1; k <= acts; k++) {
                d.due("cheer " + k, d.x.cheer(0, k % 10), true);
            }
            int can = Math.min(20, acts);
            d.due("has(7) of " + acts, d.x.has(7), can);
            for (int k = 1; k <= can; k++) {
                d.due("undo " + k + " of " + acts, d.x.undo(), true);
                d.due("cheer behind undo " + k, d.x.tower(0, 1), (acts - k) % 10);
            }
            d.due("one more", d.x.undo(), false);
            d.due("has(7)", d.x.has(7), 0);
        }
        d.tell(ring(9, 5, 5) + "cold 50;");
        d.x.cheer(0, 1);
        d.x.yes(0, 1);
        d.x.change(0, 1);
        d.x.rounds(5);
        d.x.chance(5);
        d.due("each act is one", d.x.has(7), 5);
        d.x.seed(5);
        d.see(0, 0, 5);
        d.x.image();
        d.x.cheer(0, 10);
        d.due("others are none", d.x.has(7), 5);
    }

    private static void keptRows() {
        Desk d = new Desk("II: KEPT is its number, the first place of the first row that is long enough, how many of all were DOUBTFUL");
        d.tell(ring(9, 1, 9, 1, 1, 9, 1, 1, 1) + "says mood;fires 2;");
        d.x.rounds(1);
        d.due("the first place of the first of two rows", d.x.kept(0, 1), 2);
        d.due("of all", d.x.kept(0, 2), 6);
        d.tell(ring(9, 1, 9, 1, 1, 9, 1, 1, 1) + "says mood;fires 3;");
        d.x.rounds(2);
        d.due("the first one that is long enough", d.x.kept(0, 1), 5);
        d.due("its number", d.x.kept(0, 0), 0);
        d.due("the next one's number", d.x.kept(1, 0), 1);
        d.tell(ring(9, 1, 1, 1, 9) + "says mood;fires 2;");
        d.x.rounds(1);
        d.due("a row that is longer", d.x.kept(0, 1), 0);
        d.tell(ring(9, 9, 9, 9, 9, 9, 9, 9, 1) + "says mood;fires 1;");
        d.x.rounds(1);
        d.due("the last place", d.x.kept(0, 1), 7);
        d.due("one alone", d.x.kept(0, 2), 1);
        d.tell(ring(9, 9, 9) + "says 9-9*(round/2-round/3);fires 1;");
        // a fire in rounds 2, 4, 5: 2/2-2/3 = 1, 3/2-3/3 = 0, 2-1, 2-1
        d.due("rounds(6)", d.x.rounds(6), 3);
        d.due("has(5)", d.x.has(5), 3);
        d.due("kept(0, 0)", d.x.kept(0, 0), 2);
        d.due("kept(1, 0)", d.x.kept(1, 0), 4);
        d.due("kept(2, 0)", d.x.kept(2, 0), 5);
        d.tell(ring(9, 3) + "says mood;fires 1;well 2;cold 100;");
        d.due("chance(2)", d.x.chance(2), 2);
        d.due("those by the seed too", d.x.has(5), 2);
        d.tell(ring(9, 9, 9, 9, 9, 9, 9) + "says 9*max(0,min(1,round-place));fires 1;");
        // in round r those from place r on are doubtful
        d.due("rounds(7)", d.x.rounds(7), 6);
        for (int k = 0; k < 6; k++) {
            d.due("kept(" + k + ", 0)", d.x.kept(k, 0), k);
            d.due("kept(" + k + ", 1)", d.x.kept(k, 1), k);
            d.due("kept(" + k + ", 2)", d.x.kept(k, 2), 6 - k);
        }
    }

    private static void lastForty() {
        Desk d = new Desk("II: the last 40 are told");
        for (int n : new int[] {39, 40, 41, 100}) {
            d.x = new AllIsWell();
            d.tell(ring(9, 1) + "fires 1;");
            d.due("rounds(" + n + ")", d.x.rounds(n), n);
            int told = Math.min(40, n);
            d.due("has(5) of " + n, d.x.has(5), told);
            d.due("the oldest of " + n, d.x.kept(0, 0), n - told);
            d.due("the latest of " + n, d.x.kept(told - 1, 0), n - 1);
            d.due("behind it", d.x.kept(told, 0), -1);
        }
        d.tell(ring(9, 1) + "fires 1;");
        d.x.rounds(41);
        d.x.rounds(60);
        d.due("the oldest", d.x.kept(0, 0), 61);
        d.x.undo();
        d.due("the oldest once more", d.x.kept(0, 0), 1);
        d.due("has(5)", d.x.has(5), 40);
        d.x.undo();
        d.due("has(5)", d.x.has(5), 0);
        d.tell(ring(9, 9, 1) + "says mood;fires 1;");
        for (int k = 1; k <= 9; k++) {
            d.x.rounds(100);
            d.due("has(5) at " + 100 * k, d.x.has(5), 40);
            d.due("the oldest at " + 100 * k, d.x.kept(0, 0), 100 * k - 40);
        }
        d.due("rounds(99)", d.x.rounds(99), 99);
        d.due("the latest of all ROUNDS", d.x.kept(39, 0), 998);
        d.due("its place", d.x.kept(39, 1), 1);
        d.due("how many", d.x.kept(39, 2), 1);
    }

    // ---- III

    private static void aheadWithoutDraws() {
        Desk d = with("III: AHEAD are ROUNDS without DRAWS", ring(9, 9, 9) + "cold 100;fires 1;well 9;");
        d.due("tone(0, 60)", d.x.tone(0, 60), 9);
        d.due("mood(0, 60)", d.x.mood(0, 60), 9);
        d.due("doubts(60)", d.x.doubts(60), 0);
        d.due("fire()", d.x.fire(), -1);
        d.due("rule(1, 60)", d.x.rule(1, 60), 0);
        d.due("cheered(30)", d.x.cheered(30), 0);
        d.due("settles(0)", d.x.settles(0), 1);
        d.due("rounds(100)", d.x.rounds(100), 0);
        cold(d, 1);
    }

    private static void settlesBehind() {
        Desk d = new Desk("III: SETTLES: as behind a ROUND (or now) ahead of that");
        d.tell(ring(5, 5) + "says 5;");
        d.due("as now", d.x.settles(0), 1);
        d.due("round in one", d.x.settles(1), 1);
        d.tell(ring(4, 5) + "says 5;");
        d.due("the last tone is another one now", d.x.settles(0), 2);
        d.due("round in one", d.x.settles(1), 1);
        d.tell(ring(5, 4) + "says 5;feels 5;");
        d.due("a mood is another one now", d.x.settles(0), 2);
        d.tell(ring(5, 0) + "says 5;feels 1-mood;");
        d.due("round in two, now among them", d.x.settles(0), 2);
        d.due("round in two", d.x.settles(1), 2);
        d.tell(ring(5, 0, 9) + "says 5;feels (1-place)*(1-mood)+place*9;");
        d.due("the first tower's mood counts", d.x.settles(1), 2);
        d.tell(ring(5, 9, 0) + "says 5;feels place*(1-mood)+(1-place)*9;");
        d.due("the last tower's mood counts", d.x.settles(1), 2);
        d.tell(ring(0, 0, 9) + "says 0;feels (1-place)*1+place*0;");
        d.due("no two moods are taken for two others", d.x.settles(0), 2);
        d.tell(ring(0, 9) + "says 1;feels 0;");
        d.due("nor the last tone for a mood", d.x.settles(0), 2);
        d.tell(ring(5, 9, 9, 9, 9, 9, 9, 9, 0) + "says 5;feels mood*(1-place/7)+(1-mood)*(place/7);");
        d.due("the eighth tower's mood counts", d.x.settles(1), 2);
        d.tell(ring(5, 7) + "says 5;feels mood-1+5*(2/(mood+1)-1/(mood+1));");
        // 2/(m+1)-1/(m+1) is 1 for mood 1 and for mood 0: 7 6 5 4 3 2 1 5, round in five behind seven
        d.due("settles(0)", d.x.settles(0), 7);
        d.due("settles(1)", d.x.settles(1), 5);
    }

    /** Moods that tell the ROUND in two digits, up to this one: it settles behind two more. */
    private static String counting(int most) {
        String m = "min(round," + most + ")";
        return "call 5;tower a mood 9 cheer 0;tower b mood 9 cheer 0;says 5;feels (1-place)*(" + m + "-" + m + "/10*10)+place*("
            + m + "/10);";
    }

    private static void settlesWithinSixty() {
        Desk d = new Desk("III: ROUNDS AHEAD (60 at most, not beyond ROUND 999)");
        d.tell(counting(57));
        d.due("behind 59", d.x.settles(0), 59);
        d.tell(counting(58));
        d.due("behind 60", d.x.settles(0), 60);
        d.tell(counting(59));
        d.due("behind 61", d.x.settles(0), -1);
        d.due("behind 61", d.x.settles(1), -1);
        d.tell(ring(4, 5) + "says 5;");
        d.at(997);
        d.due("two still come", d.x.settles(0), 2);
        d.at(998);
        d.due("one still comes", d.x.settles(0), -1);
        d.tell(ring(5, 5) + "says 5;");
        d.at(998);
        d.due("one is enough", d.x.settles(0), 1);
        d.at(999);
        d.due("none comes", d.x.settles(0), -1);
    }

    private static void cheeredThree() {
        Desk d = new Desk("III: CHEERED are the fewest TOWERS (of 3 at most)");
        d.tell(ring(9, 9, 9, 9) + "says mood+cheer;fires 1;");
        d.due("none needed", d.x.cheered(1), 0);
        d.tell(ring(9, 9, 1, 9) + "says mood+cheer;fires 1;");
        d.due("one", d.x.cheered(1), 0b010);
        d.tell(ring(9, 1, 9, 1) + "says mood+cheer;fires 1;");
        d.due("two", d.x.cheered(1), 0b101);
        d.tell(ring(9, 9, 9, 9, 9, 9, 1, 1, 1) + "says mood+cheer;fires 1;");
        d.due("three, the last ones", d.x.cheered(1), 0b11100000);
        d.tell(ring(9, 1, 9, 1, 9, 1, 9, 9, 1) + "says mood+cheer;fires 1;");
        d.due("four are too many", d.x.cheered(1), -1);
        d.tell(ring(9, 1, 1, 1, 1, 1, 1, 1, 1) + "says mood+cheer;fires 2;");
        d.due("four would do", d.x.cheered(1), -1);
        d.tell(ring(9, 1, 1, 1, 1, 1, 1, 1) + "says mood+cheer;fires 2;");
        d.due("three do", d.x.cheered(1), 0b0101010);
    }

    private static void cheeredFewest() {
        Desk d = new Desk("III: CHEERED: the fewest; of like ones the least bits");
        d.tell(ring(9, 1, 1, 1, 1) + "says mood+cheer;fires 3;");
        d.due("the second or the third", d.x.cheered(1), 0b0010);
        d.tell(ring(9, 1, 1, 1) + "says mood+cheer;fires 3;");
        d.due("any of them", d.x.cheered(1), 0b001);
        d.tell(ring(9, 1, 1, 1, 1, 1) + "says mood+cheer;fires 3;");
        d.due("one in the midst ahead of two of less bits", d.x.cheered(1), 0b00100);
        d.tell(ring(9, 1, 1, 1, 1) + "says mood+cheer;fires 2;");
        d.due("two: 0101 ahead of 0110, 1010", d.x.cheered(1), 0b0101);
    }

    private static void cheeredFromNowOn() {
        Desk d = new Desk("III: whose cheer is 9 from now on, so that there is no FIRE in n ROUNDS AHEAD");
        d.tell(ring(9, 4) + "says mood+cheer-round;fires 1;");
        // round by round 4, 3: a fire in the second one; with cheer 9 it is 13 - round: a fire in round 10
        d.due("cheered(1)", d.x.cheered(1), 0);
        d.due("cheered(2)", d.x.cheered(2), 1);
        d.due("cheered(10)", d.x.cheered(10), 1);
        d.due("cheered(11)", d.x.cheered(11), -1);
        d.tell("call 9;tower a mood 0 cheer 4;says cheer;fires 1;well 9;");
        d.due("9 is well", d.x.cheered(1), 1);
        d.tell("call 9;tower a mood 0 cheer 4;says cheer-1;fires 1;well 9;");
        d.due("9 and no more", d.x.cheered(1), -1);
        d.due("the cheer stays as it was", d.x.tower(0, 1), 4);
    }

    private static void sighsThree() {
        Desk d = new Desk("III: SIGHS are the fewest TOWERS (of 3 at most)");
        d.tell(ring(9, 3, 4, 4) + "says mood-sigh;fires 1;");
        d.due("none needed", d.x.sighs(1), 0);
        d.tell(ring(9, 5, 4, 5) + "says mood-sigh;fires 1;");
        d.due("one", d.x.sighs(1), 0b010);
        d.tell(ring(9, 4, 4, 5) + "says mood-sigh;fires 2;");
        d.due("two", d.x.sighs(1), 0b011);
        d.tell(ring(9, 5, 5, 5, 5, 5, 4, 4, 4) + "says mood-sigh;fires 3;");
        d.due("three, the last ones", d.x.sighs(1), 0b11100000);
        d.tell(ring(9, 4, 4, 4, 4) + "says mood-sigh;fires 4;");
        d.due("four are too many", d.x.sighs(1), -1);
        d.tell(ring(9, 4, 3, 4, 4) + "says mood-sigh;fires 4;");
        d.due("three do", d.x.sighs(1), 0b1101);
    }

    private static void sighsFewest() {
        Desk d = new Desk("III: SIGHS: the fewest; of like ones the least bits");
        d.tell(ring(9, 4, 4, 5, 3, 4) + "says mood-sigh;fires 2;");
        d.due("one above two of less bits", d.x.sighs(1), 0b10000);
        d.tell(ring(9, 4, 4, 4) + "says mood-sigh;fires 1;");
        d.due("any of them", d.x.sighs(1), 0b001);
        d.tell(ring(9, 5, 4, 4, 4) + "says mood-sigh;fires 2;");
        d.due("0110 ahead of 1100", d.x.sighs(1), 0b0110);
    }

    private static void sighsInTheNextRoundAlone() {
        Desk d = new Desk("III: a SIGH is in the next ROUND alone, so that there is a FIRE in n ROUNDS AHEAD");
        d.tell(ring(9, 9) + "says mood-sigh;feels mood;fires 1;well 9;");
        d.due("in the next one", d.x.sighs(1), 1);
        d.tell(ring(9, 9) + "says mood-sigh*min(1,round);fires 1;");
        d.due("in no later one", d.x.sighs(30), -1);
        d.tell(ring(9, 9) + "says mood*(1-min(1,round/2));feels tone;fires 1;");
        d.due("a fire that comes later", d.x.sighs(2), -1);
        d.due("a fire that comes later", d.x.sighs(3), 0);
        d.tell(ring(9, 9) + "says mood-sigh;feels tone-3+(tone/9)*3;fires 1;well 4;");
        // with the sigh it says 8, feels 5, says 5, feels 2, says 2
        d.due("two rounds", d.x.sighs(2), -1);
        d.due("three rounds", d.x.sighs(3), 1);
    }

    private static void yesIfFewer() {
        Desk d = new Desk("III: a YES (not one of yes), if fewer than without; of like ones the first");
        d.tell(ring(9, 9, 9) + "says mood;");
        d.due("none is doubtful", d.x.better(1, 0), -1);
        d.tell(ring(9, 9, 1) + "says mood;");
        d.due("the last one", d.x.better(1, 0), 1);
        d.due("none left", d.x.better(1, 1), 0);
        d.tell(ring(9, 9, 1) + "says mood;yes b;");
        d.due("it is one of yes", d.x.better(1, 0), -1);
        d.tell(ring(9, 1, 1) + "says mood;yes a;");
        d.due("the first that is not", d.x.better(1, 0), 1);
        d.tell(ring(9, 1, 1, 1) + "says mood;");
        d.due("of like ones the first", d.x.better(2, 0), 0);
        d.due("all together", d.x.better(2, 1), 4);
        d.tell(ring(9, 9, 9) + "says max(0,9-heard/9*9*place);");
        // b says 0 as it hears 9, and would not, if it were one of yes; a of yes is no better
        d.due("fewer than without", d.x.better(1, 0), 1);
        d.tell(ring(8, 8, 9) + "says (1-place)*8+place*(9-heard/9*9);");
        d.due("a of yes would be worse", d.x.better(1, 0), -1);
        d.tell(ring(9, 1) + "says 5*(1-round);well 4;");
        d.due("within n alone: none in the next", d.x.better(1, 0), -1);
        d.due("within n alone: one in two", d.x.better(2, 0), 0);
    }

    private static void placedIfFewer() {
        Desk d = new Desk("III: PLACED are the two TOWERS who should change, likewise; of like ones the first pair");
        d.tell(ring(9, 9, 9) + "says mood;");
        d.due("none is doubtful", d.x.placed(1, 0), -1);
        d.tell(ring(9, 1, 9) + "says mood;");
        d.due("none is better", d.x.placed(1, 0), -1);
        d.tell(ring(9, 1) + "says mood;");
        d.due("one alone", d.x.placed(1, 0), -1);
        d.tell(ring(9, 9, 1, 9, 9) + "says mood;yes c;yes d;");
        d.due("the first pair", d.x.placed(1, 0), 1);
        d.due("the first pair", d.x.placed(1, 1), 2);
        d.due("none left", d.x.placed(1, 2), 0);
        d.tell(ring(9, 9, 9, 9, 9, 9, 9, 1, 9) + "says mood;yes h;");
        d.due("the last pair", d.x.placed(30, 0), 6);
        d.due("the last pair", d.x.placed(30, 1), 7);
        d.tell(ring(9, 1, 1, 9, 9) + "says mood;yes c;yes d;");
        d.due("one of two: 0 with 2 ahead of 1 with 2", d.x.placed(2, 0), 0);
        d.due("one of two", d.x.placed(2, 1), 2);
        d.due("all together", d.x.placed(2, 2), 2);
        d.tell("call 9;tower a mood 0 cheer 9;tower b mood 0 cheer 0;says cheer*place+9*(1-place);");
        d.due("the cheer goes along", d.x.placed(1, 0), 0);
        d.due("nothing has changed", d.x.tower(0, 1), 9);
    }

    private static void gameNoneAhead() {
        Desk d = new Desk("III: the GAME: the captain's TOWER: none ahead of the first one of like ones");
        d.tell(ring(9, 9, 9) + "says mood+cheer-sigh;");
        d.due("none is doubtful", d.x.game(0), 0);
        d.due("none of like ones", d.x.game(1), -1);
        d.tell(ring(9, 4, 9) + "says mood+cheer-sigh;");
        d.due("the ditch's one is cheered", d.x.game(0), 0);
        d.due("the captain's", d.x.game(1), 0);
        d.tell(ring(9, 9, 1) + "says mood+cheer-sigh;");
        d.due("the last one is cheered", d.x.game(0), 0);
        d.due("the captain's", d.x.game(1), 1);
        d.tell(ring(9, 1, 1) + "says mood+cheer-sigh;");
        d.due("one of two is left", d.x.game(0), 1);
        d.due("the first one of like ones", d.x.game(1), 0);
        d.tell(ring(9, 4, 4) + "says mood+cheer-sigh;");
        d.due("the ditch takes the other one", d.x.game(0), 1);
        d.due("none of like ones", d.x.game(1), -1);
        d.tell(ring(9, 9) + "says 9-sigh*9+cheer-9*(cheer/9);");
        d.due("one sigh at the most", d.x.game(0), 1);
        d.tell(ring(9, 9, 9) + "says sigh*9+cheer/9*place*9;");
        // all are doubtful but for the one with a sigh: the ditch has none; b cheered is well
        d.due("the ditch may have none", d.x.game(0), 1);
        d.due("the captain's", d.x.game(1), 1);
        d.tell(ring(9, 5) + "says cheer-5;");
        d.due("cheer 9 is enough", d.x.game(0), 0);
        d.tell(ring(9, 5) + "says cheer-6;");
        d.due("cheer 9 and no more", d.x.game(0), 1);
        d.tell(ring(9));
        d.due("without towers", d.x.game(0), 0);
        d.due("without towers", d.x.game(1), -1);
    }

    private static void rulesOfRows() {
        Desk d = new Desk("III: a RULE of k rings a FIRE in a ROUND in which k TOWERS or more, one behind the other, are DOUBTFUL");
        for (int row = 0; row <= 8; row++) {
            int[] moods = new int[8];
            Arrays.fill(moods, 9);
            Arrays.fill(moods, 0, row, 3);
            d.x = new AllIsWell();
            d.tell(ring(9, moods) + "says mood;fires 8;");
            for (int k = 1; k <= 8; k++) {
                d.due("a row of " + row + ", rule(" + k + ", 7)", d.x.rule(k, 7), k <= row ? 7 : 0);
            }
        }
        d.tell(ring(9, 9) + "says 9-round;");
        // doubtful from round 6 on
        d.due("rule(1, 6)", d.x.rule(1, 6), 0);
        d.due("rule(1, 7)", d.x.rule(1, 7), 1);
        d.due("rule(1, 60)", d.x.rule(1, 60), 54);
    }

    private static void seenRounds() {
        Desk d = with("III: SEEN are rows of ROUNDS AHEAD (0 .. 30; 0 the next one), TOWER, tone",
            ring(0, 5, 5) + "says mood*(1-min(1,round))+mood*(round/30)+4*place;");
        // the mood is said in the next round and in number 30
        d.due("number 0", d.see(0, 0, 3), 1);
        d.due("moods(0)", d.x.moods(0), 1 << 3);
        d.due("number 30", d.see(30, 0, 3), 1);
        d.due("moods(0)", d.x.moods(0), 1 << 3);
        d.due("number 29", d.see(29, 0, 0), 1);
        d.due("moods(0)", d.x.moods(0), 1023);
        d.due("number 29", d.see(29, 0, 3), 1);
        d.due("moods(0)", d.x.moods(0), 0);
        d.due("number 31", d.see(31, 0, 0), -1);
        d.due("the last tower", d.see(0, 1, 9), 1);
        d.due("of its moods 5 and more", d.x.moods(1), 0b1111100000);
        d.due("one tower more", d.see(0, 2, 9), -1);
        d.tell(ring(0, 5, 5) + "says min(9,mood+round);");
        d.due("rows of other ROUNDS", d.see(2, 0, 5, 4, 0, 7, 0, 0, 3), 3);
        d.due("all are of mood 3", d.x.moods(0), 1 << 3);
        d.due("the second one's ROUND", d.see(2, 0, 5, 3, 0, 7, 0, 0, 3), 3);
        d.due("it is of mood 4", d.x.moods(0), 0);
        d.due("of one that is far", d.see(2, 0, 8, 30, 1, 9), 2);
        d.due("it is of any", d.x.moods(0), 1 << 6);
        d.due("that is ahead of one near", d.see(30, 1, 9, 2, 0, 8), 2);
        d.due("it is of any", d.x.moods(0), 1 << 6);
    }

    private static void moodsOfTen() {
        Desk d = with("III: MOODS (0 .. 9) that a told TOWER can have now, so that all is so", ring(9, 5, 5) + "says mood;");
        for (int mood = 0; mood <= 9; mood++) {
            d.see(0, 0, mood);
            d.due("mood " + mood, d.x.moods(0), 1 << mood);
            d.due("the other one's", d.x.moods(1), mood == 5 ? 1023 : 0);
        }
        d.see(0, 0, 4, 0, 0, 4, 7, 0, 4, 0, 1, 5);
        d.due("all rows are so", d.x.moods(0), 1 << 4);
        d.see(0, 0, 4, 0, 0, 4, 7, 0, 4, 0, 1, 6);
        d.due("the last row is not", d.x.moods(0), 0);
        d.see(0, 0, 6, 0, 0, 4, 7, 0, 4, 0, 1, 5);
        d.due("the first row is not", d.x.moods(0), 0);
        d.due("the mood stays", d.x.tower(0, 0), 5);
    }

    private static void tells(Desk d, int tower, int round, int answers, int left) {
        d.due("tells(" + tower + ", 0)", d.x.tells(tower, 0), round);
        d.due("tells(" + tower + ", 1)", d.x.tells(tower, 1), answers);
        d.due("tells(" + tower + ", 2)", d.x.tells(tower, 2), left);
    }

    private static void tellingRounds() {
        Desk d = new Desk("III: TELLING is the answer (ROUND AHEAD 0 .. 30, TOWER); of like ones the first, ROUND by ROUND");
        d.tell(ring(9, 5, 5) + "says 5;");
        tells(d, 1, 0, 0, 10);
        d.tell(ring(9, 5) + "says mood*(round/30);");
        tells(d, 0, 30, 0, 1);
        d.tell(ring(9, 5) + "says mood*(round/31);");
        tells(d, 0, 0, 0, 10);
        d.tell(ring(9, 5, 5) + "says mood*place*(round/30);");
        tells(d, 1, 30, 1, 1);
        d.tell(ring(9, 5, 5) + "says mood*(1-place)*min(1,round)+heard*place;");
        // in round 1 tower 0 tells its mood, tower 1 says it behind it
        tells(d, 0, 1, 0, 1);
        d.tell(ring(9, 5, 5) + "says mood/2*(1-place)+mood*place*round;");
        // of tower 0: two moods each; of tower 1: 1 in round 1, as 0 .. 9 are told whole
        tells(d, 0, 0, 0, 2);
        tells(d, 1, 1, 1, 1);
        d.tell(ring(9, 5) + "says mood/3;");
        // 0 1 2, 3 4 5, 6 7 8, 9
        tells(d, 0, 0, 0, 3);
        d.see(0, 0, 3);
        tells(d, 0, 0, 0, 1);
        d.see(0, 0, 2);
        tells(d, 0, 0, 0, 3);
        d.see(0, 0, 4);
        tells(d, 0, -1, -1, -1);
    }

    // ---- IV

    private static void firstAndLast() {
        Desk d = with("IV: first TEST, last TEST, often TEST", ring(9, 1, 2, 3, 4, 5, 6, 7, 8));
        d.answer("first all", 0);
        d.answer("last all", 7);
        d.answer("often all", 8);
        d.answer("first mood=8", 7);
        d.answer("last mood=1", 0);
        d.answer("first mood>8", -1);
        d.answer("last mood>8", -1);
        d.answer("often mood>8", 0);
        d.answer("first mood>3", 3);
        d.answer("last mood<3", 1);
        d.answer("often mood<3", 2);
        d.answer("often mood<1", 0);
        d.answer("often mood=3", 1);
        d.answer("often not mood=3", 7);
        d.answer("often mood<3 or mood>6", 4);
        d.answer("often mood<4 and mood>2", 1);
        d.answer("often all or all and not all", 8);
        d.answer("often [all or all] and not all", 0);
        d.answer("often not all or all", 8);
    }

    private static void withoutTowers() {
        Desk d = with("IV: 0 without TOWERS", "call 5;");
        d.answer("most 5", 0);
        d.answer("least 5", 0);
        d.answer("least 0-5", 0);
        d.answer("most 0-5", 0);
        d.answer("total 5", 0);
        d.answer("often all", 0);
        d.answer("first all", -1);
        d.answer("last all", -1);
    }

    private static void mostAndLeast() {
        Desk d = with("IV: most SUM, least SUM (the greatest, the least of all)", ring(9, 3));
        d.answer("most 0-mood", -3);
        d.answer("least mood", 3);
        d.answer("most 0-1000*1000", -1000000);
        d.answer("least 1000*1000", 1000000);
        d.tell(ring(9, 3, 8, 1, 5));
        d.answer("most mood", 8);
        d.answer("least mood", 1);
        d.answer("most 0-mood", -1);
        d.answer("least 0-mood", -8);
        d.answer("total 0-mood", -17);
    }

    private static void heardNumbers() {
        Desk d = with("IV: the tone that it says in the ROUND AHEAD of that number, 0 .. 30, -1 for others, or beyond ROUND 999",
            ring(9, 5) + "says min(8,round)/8*(round-22)+max(0,8-round);");
        // 8 - round up to round 8, then round - 22: number 30 says 8, number 31 would say 9
        d.answer("total heard 0", 8);
        d.answer("total heard 1", 7);
        d.answer("total heard 29", 7);
        d.answer("total heard 30", 8);
        d.answer("total heard 31", -1);
        d.answer("total heard 9999", -1);
        d.answer("total heard (0-1)", -1);
        d.answer("total heard (0-1000*1000)", -1);
        d.answer("total heard (1000*1000)", -1);
        d.answer("total heard heard 31", -1);
        d.at(970);
        d.answer("total heard 28", 9);
        d.answer("total heard 29", -1);
        d.at(969);
        d.answer("total heard 29", 9);
        d.answer("total heard 30", -1);
        d.at(968);
        d.answer("total heard 30", 9);
        d.at(999);
        d.answer("total heard 0", -1);
    }

    private static void saidInTheNextRound() {
        Desk d = with("IV: the tone that it says in the next ROUND; its mood behind that (both -1 beyond ROUND 999)",
            ring(9, 5, 6) + "yes b;says 4;feels tone-1;");
        d.answer("first tone=4", 0);
        d.answer("first tone=9", 1);
        d.answer("first glad=3", 0);
        d.answer("first glad=8", 1);
        d.answer("total mood", 11);
        d.x.cheer(0, 7);
        d.answer("total cheer", 7);
        d.answer("first cheer=7", 0);
        d.x.undo();
        d.answer("first yes=1", 1);
        d.answer("last yes=0", 0);
        d.at(998);
        d.answer("total tone", 13);
        d.answer("total glad", 11);
        d.at(999);
        d.answer("total tone", -2);
        d.answer("total glad", -2);
        d.answer("most tone+glad", -2);
        d.answer("total round", 1998);
    }

    private static void imageBytes() {
        Desk d = with("IV: AN IMAGE: ROUND (two bytes, the higher first), the last tone; mood, cheer, 1 if it is one of yes, else 0",
            "call 6;tower a mood 9 cheer 8;tower b mood 0 cheer 7;yes b;");
        for (int round : new int[] {0, 1, 255, 256, 257, 511, 512, 767, 768, 998, 999}) {
            d.at(round);
            int[] image = d.image();
            int[] due = Desk.checked(round / 256, round % 256, 6, 9, 8, 0, 0, 7, 1);
            d.due("image() at " + round, image.length, 10);
            for (int k = 0; k < 10; k++) {
                d.due("octet(" + k + ") at " + round, image[k], due[k]);
            }
        }
        d.tell("call 6;");
        d.due("without towers", d.x.image(), 4);
        d.tell(ring(9, 1, 1, 1, 1, 1, 1, 1, 1));
        d.due("with eight", d.x.image(), 28);
    }

    private static void imageCheck() {
        Desk d = with("IV: last a byte: all ahead from 157 on, c = (3 c + it) mod 251", "call 6;");
        boolean small = false;
        for (int round = 0; round < 40; round++) {
            int c = check(0, round, 6);
            int[] image = {0, round, 6, c};
            d.due("on() of " + round, d.on(image), true);
            d.x.image();
            d.due("octet(3) of " + round, d.x.octet(3), c);
            if (c + 251 < 256) {
                small = true;
                image[3] = c + 251;
                d.due("on() of " + round + " and 251 more", d.on(image), false);
            }
            image[3] = c == 255 ? 0 : c + 1;
            d.due("on() of " + round + " and one more", d.on(image), false);
        }
        d.due("a check below 5 was among them", small, true);
    }

    private static int check(int... bytes) {
        int c = 157;
        for (int b : bytes) {
            c = (3 * c + b) % 251;
        }
        return c;
    }
}
