/** For each promise: ordinary inputs, the edges that the document names, and wrong inputs. */
public final class PromiseTests {
    private static final String THREE =
        "call 7;tower ann mood 5 cheer 1;tower bob mood 2 cheer 3;tower cid mood 8 cheer 0;yes cid;";
    /** All say 1: a fire in each round. */
    private static final String LOW =
        "call 3;tower a mood 1 cheer 0;tower b mood 9 cheer 9;tower c mood 9 cheer 9;";

    public static void main(String[] args) {
        newObject();
        feedAndEnd();
        castleTexts();
        castleEdges();
        castleFaults();
        castleStays();
        names();
        towersAndHas();
        keptFires();
        tonesAndMoods();
        sumsOfSays();
        doubtsAndFire();
        settling();
        cheeredTowers();
        sighedTowers();
        betterYes();
        placedTowers();
        gameOfOneRound();
        rules();
        seenAndMoods();
        telling();
        cheerYesChange();
        roundsGo();
        chances();
        undone();
        seeds();
        questions();
        questionFaults();
        images();
        lastRound();
        statuses();
        Desk.close("PromiseTests");
    }

    private static void newObject() {
        Desk d = new Desk("promise 1");
        d.due("has(0)", d.x.has(0), 0);
        d.due("has(2)", d.x.has(2), -1);
        d.due("fault(0)", d.x.fault(0), 0);
        d.due("fault(1)", d.x.fault(1), -1);
        d.due("fault(2)", d.x.fault(2), -1);
        d.due("rule(1, 1)", d.x.rule(1, 1), -1);
        d.due("see()", d.see(0, 0, 0), -1);
        for (int what = 0; what < 6; what++) {
            d.due("status(" + what + ")", d.x.status(what), what == 1 ? 1 : 0);
        }
    }

    private static void feedAndEnd() {
        Desk d = new Desk("promises 2, 3");
        for (int k = 1; k <= 80; k++) {
            d.due("feed no. " + k, d.x.feed(0, -1, 1, Integer.MIN_VALUE, 5), 20 * k);
        }
        d.due("feed full", d.x.feed(1, 2, 3, 4, 5), -1);
        d.due("status(0)", d.x.status(0), 1);
        d.due("end(1601)", d.x.end(1601), false);
        d.due("end(-1)", d.x.end(-1), false);
        d.due("end(1600)", d.x.end(1600), true);
        d.due("end(1581)", d.x.end(1581), true);
        d.due("feed over by one", d.x.feed(1, 2, 3, 4, 5), -1);
        d.due("end(1582)", d.x.end(1582), false);
        d.due("end(1580)", d.x.end(1580), true);
        d.due("feed to the brim", d.x.feed(1, 2, 3, 4, 5), 1600);
        d.due("status(0)", d.x.status(0), 5);
        d.due("end(0)", d.x.end(0), true);
        d.due("the highest byte first", d.castle(THREE), 5);
    }

    private static void castleTexts() {
        Desk d = new Desk("promise 4, texts");
        d.due("call alone", d.castle("call 0;"), 1);
        d.due("blanks", d.castle(" \n call\n9 ;\n tower  a\nmood 1 cheer 2 ; "), 2);
        d.due("tower(0, 1)", d.x.tower(0, 1), 2);
        d.due("digits ahead", d.castle("call 0005;well 0009;"), 2);
        d.due("has(2)", d.x.has(2), 5);
        d.due("question words are names", d.castle("call 1;tower first mood 0 cheer 0;tower most mood 0 cheer 0;"), 3);
        d.due("the last one counts", d.castle("call 3;tower a mood 3 cheer 0;well 1;well 4;fires 8;fires 1;cold 9;cold 0;"), 8);
        d.due("fire()", d.x.fire(), 0);
        d.due("brackets", d.castle("call 5;says ((((((1))))))+((((((heard))))))-min(1,max(2,min(3,4)));"), 2);
        StringBuilder sixty = new StringBuilder("call 5;");
        for (int k = 1; k < 60; k++) {
            sixty.append("well 5;");
        }
        d.due("sixty", d.castle(sixty + " \n "), 60);
        d.fault(sixty + " ?", 5, 421);
        d.fault(sixty + "well 5;", 5, 420);
        d.fault(sixty + ";", 5, 420);
    }

    private static void castleEdges() {
        Desk d = new Desk("promise 4, edges");
        StringBuilder eight = new StringBuilder("call 5;");
        for (char c = 'a'; c < 'i'; c++) {
            eight.append("tower ").append(c).append(" mood 1 cheer 1;");
        }
        d.due("eight", d.castle(eight.toString()), 9);
        d.due("has(0)", d.x.has(0), 8);
        d.fault(eight + "tower", 5, eight.length());
        d.fault(eight + " tower i mood 1 cheer 1;", 5, eight.length() + 1);
        d.due("six letters", d.castle("call 5;tower abcdef mood 1 cheer 1;"), 2);
        String start = "call 5;says ";
        StringBuilder longest = new StringBuilder(start + "1");
        while (longest.length() < 1598) {
            longest.append("-1");
        }
        d.due("the longest sum", d.castle(longest + ";"), 2);
        d.fault(longest.toString(), 1, longest.length());
        d.due("cold edges", d.castle("call 5;cold 100;cold 0;fires 8;well 9;"), 5);
    }

    private static void castleFaults() {
        Desk d = new Desk("promises 4, 5, faults");
        String t = "call 5;tower t mood 1 cheer 1;";
        d.fault("", 1, 0);
        d.fault("  \n", 1, 3);
        d.fault(";", 1, 0);
        d.fault("tower", 1, 0);
        d.fault("cal", 1, 0);
        d.fault("calls 5;", 1, 0);
        d.fault("call", 1, 4);
        d.fault("call ", 1, 5);
        d.fault("call5;", 1, 4);
        d.fault("callX 5;", 1, 4);
        d.fault("call x;", 1, 5);
        d.fault("call 5", 1, 6);
        d.fault("call 5 6;", 1, 7);
        d.fault("call 5,", 1, 6);
        d.fault("call 12345;", 1, 9);
        d.fault("call 1234;", 2, 5);
        d.fault("call\t5;", 1, 4);
        d.fault("call 5;call 5;", 1, 7);
        d.fault("call 5;;", 1, 7);
        d.fault("call 5;heard 5;", 1, 7);
        d.fault("call 5;tower 5", 1, 13);
        d.fault("call 5;tower", 1, 12);
        for (String own : "call tower mood cheer yes says feels well fires cold heard round place sigh tone number glad or and not all min max".split(" ")) {
            d.fault("call 5;tower " + own + " mood 1 cheer 1;", 1, 13);
            d.fault("call 5;yes " + own + ";", 1, 11);
        }
        d.fault("call 5;tower numbers mood 1", 1, 19);
        d.fault("call 5;tower a cheer 1", 1, 15);
        d.fault("call 5;tower a mood 1cheer 1;", 1, 21);
        d.fault("call 5;tower a mood1", 1, 19);
        d.fault("call 5;tower a mood 10cheer", 2, 20);
        d.fault("call 5;tower a mood 1 cheer 1", 1, 29);
        d.fault("call 5;tower a mood 1 cheer 12345", 1, 32);
        d.fault(t + "tower t mood 1 cheer 1;", 3, 36);
        d.fault(t + "tower t5", 3, 36);
        d.fault(t + "yes u;", 3, 34);
        d.fault(t + "yes t;yes t;", 3, 40);
        d.fault(t + "yes ttttttt;", 1, 40);
        d.fault("call 5;yes t;tower t mood 1 cheer 1;", 3, 11);
        d.fault("call 5;well 0;", 2, 12);
        d.fault("call 5;well 10;", 2, 12);
        d.fault("call 5;fires 0;", 2, 13);
        d.fault("call 5;fires 9;", 2, 13);
        d.fault("call 5;cold 101;", 2, 12);
        d.fault("call 5;cold -1;", 1, 12);
        d.fault("call 5;says 1;says", 5, 14);
        d.fault("call 5;feels 1; feels", 5, 16);
        d.fault("call 5;says tone;", 1, 12);
        d.fault("call 5;says number;", 1, 12);
        d.fault("call 5;says glad;", 1, 12);
        d.fault("call 5;says yes;", 1, 12);
        d.fault("call 5;says all;", 1, 12);
        d.fault("call 5;feels sigh;", 1, 13);
        d.fault("call 5;says ;", 1, 12);
        d.fault("call 5;says 1+;", 1, 14);
        d.fault("call 5;says 1+*2;", 1, 14);
        d.fault("call 5;says -1;", 1, 12);
        d.fault("call 5;says 12345;", 1, 16);
        d.fault("call 5;says 1 2;", 1, 14);
        d.fault("call 5;says 1mood;", 1, 13);
        d.fault("call 5;says(1);says5", 5, 15);
        d.fault("call 5;says5;", 1, 11);
        d.fault("call 5;says heard 3;", 1, 18);
        d.fault("call 5;says (1;", 1, 14);
        d.fault("call 5;says 1);", 1, 13);
        d.fault("call 5;says min 1", 1, 16);
        d.fault("call 5;says min(1)", 1, 17);
        d.fault("call 5;says min(1,2,3)", 1, 19);
        d.fault("call 5;says min", 1, 15);
        d.fault("call 5;says (((((((1)))))));", 4, 18);
        d.fault("call 5;says ((((((min(1,2", 4, 21);
        d.fault("call 5;says min(max(min(max(min(max((", 4, 36);
        d.fault("call 5;says ((((((1))))))+(((((((", 4, 32);
        d.fault("call 5;says 1" + (char) 233, 1, 13);
        d.fault("call 5;says 1;" + (char) 0, 1, 14);
        d.fault("call 5;", 0, -1);
        d.due("fault(2)", d.x.fault(2), -1);
        d.due("fault(-1)", d.x.fault(-1), -1);
    }

    private static void castleStays() {
        Desk d = new Desk("promise 4, stays");
        d.castle(LOW);
        d.x.seed(77);
        d.see(0, 0, 1);
        d.x.rounds(3);
        d.due("a faulty one", d.castle("call 5;says ("), -1);
        d.due("status(1)", d.x.status(1), 1);
        d.due("has(0)", d.x.has(0), 3);
        d.due("has(1)", d.x.has(1), 3);
        d.due("has(5)", d.x.has(5), 3);
        d.due("has(6)", d.x.has(6), 1);
        d.due("has(7)", d.x.has(7), 1);
        d.due("the tape went", d.x.end(1), false);
        d.due("letter(1, 0)", d.x.letter(1, 0), 2);
        d.due("tone(0, 0)", d.x.tone(0, 0), 1);
        d.due("a good one", d.castle("call 5;tower z mood 9 cheer 0;cold 50;"), 3);
        d.due("the tape went", d.x.end(1), false);
        d.due("has(1)", d.x.has(1), 0);
        d.due("has(2)", d.x.has(2), 5);
        d.due("has(5)", d.x.has(5), 0);
        d.due("has(6)", d.x.has(6), 0);
        d.due("has(7)", d.x.has(7), 0);
        d.due("letter(0, 0)", d.x.letter(0, 0), 26);
        d.due("letter(1, 0)", d.x.letter(1, 0), -1);
        int colds = d.x.chance(20);
        Desk e = new Desk("promise 4, the seed stays");
        e.x.seed(77);
        e.castle("call 5;tower z mood 9 cheer 0;cold 50;");
        e.due("chance(20)", colds, e.x.chance(20));
        e.due("mood", d.x.tower(0, 0), e.x.tower(0, 0));
    }

    private static void names() {
        Desk d = new Desk("promise 7");
        d.castle("call 5;tower abcxyz mood 1 cheer 1;tower q mood 1 cheer 1;");
        int[] letters = {1, 2, 3, 24, 25, 26};
        for (int k = 0; k < 6; k++) {
            d.due("letter(0, " + k + ")", d.x.letter(0, k), letters[k]);
            d.due("letter(1, " + k + ")", d.x.letter(1, k), k == 0 ? 17 : 0);
        }
        d.due("letter(0, 6)", d.x.letter(0, 6), -1);
        d.due("letter(0, -1)", d.x.letter(0, -1), -1);
        d.due("letter(2, 0)", d.x.letter(2, 0), -1);
        d.due("letter(-1, 0)", d.x.letter(-1, 0), -1);
        d.x.change(0, 1);
        d.due("the name stays with the tower", d.x.letter(0, 0), 1);
        d.castle("call 5;tower b mood 1 cheer 1;");
        d.due("no letters of before", d.x.letter(0, 1), 0);
    }

    private static void towersAndHas() {
        Desk d = new Desk("promises 6, 8");
        d.castle(THREE);
        d.due("has(0)", d.x.has(0), 3);
        d.due("has(1)", d.x.has(1), 0);
        d.due("has(2)", d.x.has(2), 7);
        d.due("has(3)", d.x.has(3), 1);
        d.due("has(4)", d.x.has(4), 15);
        d.due("has(-1)", d.x.has(-1), -1);
        d.due("has(8)", d.x.has(8), -1);
        int[][] want = {{5, 1, 0}, {2, 3, 0}, {8, 0, 1}};
        for (int t = 0; t < 3; t++) {
            for (int what = 0; what < 3; what++) {
                d.due("tower(" + t + ", " + what + ")", d.x.tower(t, what), want[t][what]);
            }
        }
        d.due("tower(0, 3)", d.x.tower(0, 3), -1);
        d.due("tower(0, -1)", d.x.tower(0, -1), -1);
        d.due("tower(3, 0)", d.x.tower(3, 0), -1);
        d.due("tower(-1, 0)", d.x.tower(-1, 0), -1);
        d.x.rounds(2);
        d.due("has(1)", d.x.has(1), 2);
        d.due("has(2)", d.x.has(2), 9);
        d.due("has(7)", d.x.has(7), 1);
    }

    private static void keptFires() {
        Desk d = new Desk("promise 9");
        // tower a is doubtful, b is not, c and d are: the first row of two begins at 2
        d.castle("call 9;tower a mood 1 cheer 0;tower b mood 9 cheer 0;tower c mood 2 cheer 0;tower d mood 3 cheer 0;"
            + "says mood;fires 2;");
        d.due("rounds(3)", d.x.rounds(3), 3);
        for (int k = 0; k < 3; k++) {
            d.due("kept(" + k + ", 0)", d.x.kept(k, 0), k);
            d.due("kept(" + k + ", 1)", d.x.kept(k, 1), 2);
            d.due("kept(" + k + ", 2)", d.x.kept(k, 2), 3);
        }
        d.due("kept(3, 0)", d.x.kept(3, 0), -1);
        d.due("kept(-1, 0)", d.x.kept(-1, 0), -1);
        d.due("kept(0, 3)", d.x.kept(0, 3), -1);
        d.due("kept(0, -1)", d.x.kept(0, -1), -1);
        d.x.rounds(60);
        d.due("has(5)", d.x.has(5), 40);
        d.due("kept(0, 0)", d.x.kept(0, 0), 23);
        d.due("kept(39, 0)", d.x.kept(39, 0), 62);
        d.due("kept(40, 0)", d.x.kept(40, 0), -1);
        d.due("undo()", d.x.undo(), true);
        d.due("has(5)", d.x.has(5), 3);
        d.due("kept(0, 0)", d.x.kept(0, 0), 0);
        for (int k = 0; k < 9; k++) {
            d.x.rounds(100);
        }
        d.due("has(1)", d.x.has(1), 903);
        d.due("rounds(96)", d.x.rounds(96), 96);
        d.due("kept(39, 0)", d.x.kept(39, 0), 998);
    }

    private static void tonesAndMoods() {
        Desk d = new Desk("promises 10, 11");
        d.castle(THREE);
        int[][] tones = {{6, 5, 9}, {6, 5, 9}};
        for (int k = 0; k < 2; k++) {
            for (int t = 0; t < 3; t++) {
                d.due("tone(" + t + ", " + k + ")", d.x.tone(t, k), tones[k][t]);
            }
        }
        d.due("tone(0, 60)", d.x.tone(0, 60), 6);
        d.due("tone(0, 61)", d.x.tone(0, 61), -1);
        d.due("tone(0, -1)", d.x.tone(0, -1), -1);
        d.due("tone(3, 0)", d.x.tone(3, 0), -1);
        d.due("tone(-1, 0)", d.x.tone(-1, 0), -1);
        d.castle("call 9;tower a mood 9 cheer 0;tower b mood 0 cheer 4;says mood;feels heard-place*3+round;");
        // round 0: a says 9, feels 9; b hears 9, says 0, feels 6. round 1: a hears 0, says 9, feels 1; b says 6, feels 7
        d.due("mood(1, 0)", d.x.mood(1, 0), 0);
        d.due("mood(0, 1)", d.x.mood(0, 1), 9);
        d.due("mood(1, 1)", d.x.mood(1, 1), 6);
        d.due("tone(1, 1)", d.x.tone(1, 1), 6);
        d.due("mood(0, 2)", d.x.mood(0, 2), 1);
        d.due("mood(1, 2)", d.x.mood(1, 2), 7);
        d.due("mood(1, 60)", d.x.mood(1, 60), 9);
        d.due("mood(1, 61)", d.x.mood(1, 61), -1);
        d.due("mood(1, -1)", d.x.mood(1, -1), -1);
        d.due("mood(2, 0)", d.x.mood(2, 0), -1);
        d.due("mood(-1, 0)", d.x.mood(-1, 0), -1);
        d.due("all stays", d.x.has(1), 0);
        d.due("all stays", d.x.tower(1, 0), 0);
    }

    private static void says(Desk d, String sum, int want) {
        d.castle("call 7;tower a mood 2 cheer 3;says " + sum + ";");
        d.due("says " + sum, d.x.tone(0, 0), want);
    }

    private static void sumsOfSays() {
        Desk d = new Desk("terms I, sums");
        says(d, "1+2*3", 7);
        says(d, "9-3-2", 4);
        says(d, "9-(3-2)", 8);
        says(d, "8/4*2", 4);
        says(d, "7/2", 3);
        says(d, "9+(0-7)/2", 5);
        says(d, "9+7/(0-2)", 5);
        says(d, "5/0+4", 4);
        says(d, "9999*9999-9999*100-96", 4);
        says(d, "0-9999*9999+9999*100+104", 4);
        says(d, "9999*100+9999-999*1000-999", 1);
        says(d, "0-5", 0);
        says(d, "10", 9);
        says(d, "heard+mood-cheer", 6);
        says(d, "min(heard,mood)", 2);
        says(d, "max(heard,mood)", 7);
        says(d, "min(1+2,max(5,4))", 3);
        says(d, "sigh+round+place", 0);
        d.castle("call 7;tower a mood 2 cheer 3;tower b mood 2 cheer 3;says round*2+place;feels tone+mood;");
        d.due("tone(1, 3)", d.x.tone(1, 3), 7);
        d.due("mood(1, 2)", d.x.mood(1, 2), 6);
        d.castle("call 7;tower a mood 2 cheer 3;yes a;says 0;feels tone;");
        d.due("a tower of yes", d.x.tone(0, 0), 9);
        d.due("feels its tone", d.x.mood(0, 1), 9);
    }

    private static void doubtsAndFire() {
        Desk d = new Desk("promises 12, 13");
        d.castle("call 5;");
        d.due("doubts(0) without towers", d.x.doubts(0), 0);
        d.due("fire() without towers", d.x.fire(), -1);
        // a tower is doubtful from its own round on
        d.castle("call 9;tower a mood 9 cheer 0;tower b mood 9 cheer 0;tower c mood 9 cheer 0;says 5-round+place;fires 2;");
        int[] doubts = {0, 0, 1, 2, 3};
        for (int k = 0; k < 5; k++) {
            d.due("doubts(" + k + ")", d.x.doubts(k), doubts[k]);
        }
        d.due("doubts(60)", d.x.doubts(60), 3);
        d.due("doubts(61)", d.x.doubts(61), -1);
        d.due("doubts(-1)", d.x.doubts(-1), -1);
        d.due("fire()", d.x.fire(), 3);
        d.x.rounds(2);
        d.due("fire()", d.x.fire(), 1);
        d.castle("call 9;tower a mood 1 cheer 0;tower b mood 9 cheer 0;tower c mood 1 cheer 0;says mood;fires 2;");
        d.due("not round the ring", d.x.fire(), -1);
        d.due("doubts(0)", d.x.doubts(0), 2);
        d.castle("call 9;tower a mood 9 cheer 0;says 5-max(0,round-58);fires 1;well 4;");
        d.due("fire at the farthest", d.x.fire(), 60);
        d.castle("call 9;tower a mood 9 cheer 0;says 5-max(0,round-59);fires 1;well 4;");
        d.due("fire beyond the farthest", d.x.fire(), -1);
        d.castle("call 9;tower a mood 4 cheer 0;says mood;fires 1;well 4;");
        d.due("a tone as well tells is none", d.x.doubts(0), 0);
    }

    private static void settling() {
        Desk d = new Desk("promise 14");
        d.castle("call 5;");
        d.due("settles(0) without towers", d.x.settles(0), 1);
        d.due("settles(1) without towers", d.x.settles(1), 1);
        // moods go 1 2 3 4 5 6 7 8 9 5 6 ..: behind 9 rounds it is as behind 4
        d.castle("call 5;tower a mood 1 cheer 0;says 3;feels mood+1-5*(mood/9);");
        d.due("settles(0)", d.x.settles(0), 9);
        d.due("settles(1)", d.x.settles(1), 5);
        d.due("settles(2)", d.x.settles(2), -1);
        d.due("settles(-1)", d.x.settles(-1), -1);
        d.castle("call 3;tower a mood 1 cheer 0;says 3;");
        d.due("settles(0)", d.x.settles(0), 1);
        d.castle("call 5;tower a mood 1 cheer 0;says 3;");
        d.due("the last tone counts", d.x.settles(0), 2);
        d.castle(counting(58));
        d.due("behind sixty", d.x.settles(0), 60);
        d.due("behind sixty", d.x.settles(1), 1);
        d.castle(counting(59));
        d.due("beyond sixty", d.x.settles(0), -1);
        d.due("beyond sixty", d.x.settles(1), -1);
        d.castle("call 0;tower a mood 0 cheer 0;says round/60;feels round/59;");
        d.due("the round is no part of it", d.x.settles(0), 1);
    }

    /** Two towers whose moods tell the round in two digits, up to so many. */
    private static String counting(int most) {
        String m = "min(round," + most + ")";
        return "call 5;tower a mood 9 cheer 0;tower b mood 9 cheer 0;says 5;feels (1-place)*(" + m + "-" + m + "/10*10)+place*("
            + m + "/10);";
    }

    private static void cheeredTowers() {
        Desk d = new Desk("promise 15");
        String four = "tower a mood 1 cheer 0;tower b mood 1 cheer 0;tower c mood 1 cheer 0;tower d mood 1 cheer 0;";
        d.castle("call 9;" + four + "says mood+cheer;fires 2;");
        d.due("cheered(1)", d.x.cheered(1), 0b0101);
        d.castle("call 9;" + four + "says mood+cheer;fires 1;");
        d.due("three are not enough", d.x.cheered(1), -1);
        d.castle("call 9;" + four + "says mood+cheer;fires 3;");
        d.due("the least bits", d.x.cheered(30), 0b0010);
        d.castle("call 9;" + four + "says mood+cheer;fires 5;");
        d.due("none needed", d.x.cheered(5), 0);
        d.due("cheered(0)", d.x.cheered(0), -1);
        d.due("cheered(31)", d.x.cheered(31), -1);
        d.castle("call 9;tower a mood 9 cheer 0;says mood+cheer-round*3;fires 1;");
        d.due("cheered(1)", d.x.cheered(1), 0);
        d.due("cheered(3)", d.x.cheered(3), 1);
        d.due("cheered(6)", d.x.cheered(6), -1);
        d.castle("call 9;");
        d.due("without towers", d.x.cheered(30), 0);
    }

    private static void sighedTowers() {
        Desk d = new Desk("promise 16");
        String four = "tower a mood 4 cheer 0;tower b mood 4 cheer 0;tower c mood 4 cheer 0;tower d mood 4 cheer 0;";
        d.castle("call 9;" + four + "says mood-sigh;fires 2;");
        d.due("sighs(1)", d.x.sighs(1), 0b0011);
        d.castle("call 9;" + four + "says mood-sigh;fires 4;");
        d.due("three are not enough", d.x.sighs(1), -1);
        d.castle("call 9;" + four + "fires 2;");
        d.due("one is heard by the others", d.x.sighs(1), 0b0001);
        d.castle("call 3;" + four + "fires 2;");
        d.due("none needed", d.x.sighs(1), 0);
        // the sigh is in the next round alone, what is felt comes behind it
        d.castle("call 9;tower a mood 4 cheer 0;tower b mood 4 cheer 0;says mood+1-sigh;feels tone-1;fires 2;");
        d.due("sighs(1)", d.x.sighs(1), -1);
        d.due("sighs(2)", d.x.sighs(2), -1);
        d.castle("call 9;tower a mood 4 cheer 0;tower b mood 4 cheer 0;says mood-sigh*place;feels tone;fires 1;");
        d.due("sighs(1)", d.x.sighs(1), 0b10);
        d.castle("call 9;tower a mood 5 cheer 0;says mood-sigh;feels tone-1+round*9;fires 1;");
        d.due("sighs(1)", d.x.sighs(1), -1);
        d.due("sighs(2)", d.x.sighs(2), 1);
        d.due("sighs(0)", d.x.sighs(0), -1);
        d.due("sighs(31)", d.x.sighs(31), -1);
    }

    private static void betterYes() {
        Desk d = new Desk("promise 17");
        d.castle("call 9;tower a mood 9 cheer 0;tower b mood 1 cheer 0;tower c mood 2 cheer 9;tower d mood 9 cheer 9;");
        // b says 1, and all behind it: with b of yes none is doubtful
        d.due("better(1, 0)", d.x.better(1, 0), 1);
        d.due("better(1, 1)", d.x.better(1, 1), 0);
        d.due("better(30, 1)", d.x.better(30, 1), 0);
        d.due("better(1, 2)", d.x.better(1, 2), -1);
        d.due("better(1, -1)", d.x.better(1, -1), -1);
        d.due("better(0, 0)", d.x.better(0, 0), -1);
        d.due("better(31, 0)", d.x.better(31, 0), -1);
        d.due("yes(1, 1)", d.x.yes(1, 1), true);
        d.due("none is better", d.x.better(1, 0), -1);
        d.due("none is better", d.x.better(1, 1), -1);
        d.castle("call 9;tower a mood 1 cheer 0;tower b mood 1 cheer 0;says mood;");
        d.due("the first of like ones", d.x.better(3, 0), 0);
        d.due("better(3, 1)", d.x.better(3, 1), 3);
    }

    private static void placedTowers() {
        Desk d = new Desk("promise 18");
        d.castle("call 9;tower a mood 1 cheer 0;tower b mood 9 cheer 0;tower c mood 8 cheer 1;says min(heard,mood+cheer);");
        // the low one last: 9 9 1, one doubtful; but of the next rounds all, as 1 is heard
        d.due("placed(1, 0)", d.x.placed(1, 0), 0);
        d.due("placed(1, 1)", d.x.placed(1, 1), 2);
        d.due("placed(1, 2)", d.x.placed(1, 2), 1);
        d.due("placed(2, 2)", d.x.placed(2, 2), 4);
        d.due("placed(1, 3)", d.x.placed(1, 3), -1);
        d.due("placed(1, -1)", d.x.placed(1, -1), -1);
        d.due("placed(0, 0)", d.x.placed(0, 0), -1);
        d.due("placed(31, 0)", d.x.placed(31, 0), -1);
        d.x.change(0, 2);
        d.due("none is better", d.x.placed(1, 0), -1);
        d.due("none is better", d.x.placed(1, 2), -1);
        // yes stays with the place: the low one should go there
        d.castle("call 9;tower a mood 9 cheer 0;tower b mood 1 cheer 0;tower c mood 9 cheer 0;yes a;yes c;says mood;");
        d.due("the first pair", d.x.placed(1, 0), 0);
        d.due("the first pair", d.x.placed(1, 1), 1);
        d.due("placed(1, 2)", d.x.placed(1, 2), 0);
    }

    private static void gameOfOneRound() {
        Desk d = new Desk("promise 19");
        d.castle("call 9;");
        d.due("without towers", d.x.game(0), 0);
        d.due("without towers", d.x.game(1), -1);
        d.castle("call 9;tower a mood 4 cheer 0;tower b mood 4 cheer 0;says mood+cheer-sigh*2;");
        // a sigh below the one not cheered: one is doubtful, as without the captain
        d.due("game(0)", d.x.game(0), 1);
        d.due("game(1)", d.x.game(1), -1);
        d.due("game(2)", d.x.game(2), -1);
        d.due("game(-1)", d.x.game(-1), -1);
        d.castle("call 9;tower a mood 9 cheer 0;tower b mood 1 cheer 0;tower c mood 1 cheer 0;says mood+cheer-sigh*6;");
        // a sighs: 3 with none; b or c cheered: the others are 2
        d.due("game(0)", d.x.game(0), 2);
        d.due("game(1)", d.x.game(1), 0);
        d.castle("call 9;tower a mood 9 cheer 9;tower b mood 1 cheer 0;tower c mood 1 cheer 0;says mood+cheer-sigh*6;");
        // b cheered says 4 with a sigh: c alone is left
        d.due("game(0)", d.x.game(0), 1);
        d.due("game(1)", d.x.game(1), 1);
        d.due("all stays", d.x.tower(1, 1), 0);
    }

    private static void rules() {
        Desk d = new Desk("promise 20");
        d.castle("call 9;tower a mood 9 cheer 0;tower b mood 9 cheer 0;tower c mood 9 cheer 0;says 5-round+place;fires 8;");
        d.due("rule(1, 2)", d.x.rule(1, 2), 0);
        d.due("rule(1, 60)", d.x.rule(1, 60), 58);
        d.due("rule(2, 60)", d.x.rule(2, 60), 57);
        d.due("rule(3, 60)", d.x.rule(3, 60), 56);
        d.due("rule(4, 60)", d.x.rule(4, 60), 0);
        d.due("rule(8, 60)", d.x.rule(8, 60), 0);
        d.due("rule(9, 1)", d.x.rule(9, 1), -1);
        d.due("rule(0, 1)", d.x.rule(0, 1), -1);
        d.due("rule(1, 0)", d.x.rule(1, 0), -1);
        d.due("rule(1, 61)", d.x.rule(1, 61), -1);
    }

    private static void seenAndMoods() {
        Desk d = new Desk("promises 21, 22");
        d.castle("call 9;tower a mood 5 cheer 0;tower b mood 9 cheer 0;");
        d.due("moods(0) of nothing seen", d.x.moods(0), 1023);
        d.due("moods(2)", d.x.moods(2), -1);
        d.due("moods(-1)", d.x.moods(-1), -1);
        d.due("see()", d.see(0, 0, 7), 1);
        d.due("moods(0)", d.x.moods(0), 1 << 7);
        d.due("moods(1)", d.x.moods(1), 0);
        d.due("see()", d.see(30, 1, 5), 1);
        d.due("moods(0)", d.x.moods(0), 1 << 5);
        d.due("moods(1)", d.x.moods(1), 0b1111100000);
        d.due("two rows", d.see(0, 0, 5, 0, 1, 4), 2);
        d.due("has(6)", d.x.has(6), 2);
        d.due("moods(1)", d.x.moods(1), 1 << 4);
        d.due("empty", d.x.see(), -1);
        d.due("two bytes", d.see(0, 0), -1);
        d.due("four bytes", d.see(0, 0, 1, 0), -1);
        d.due("round 31", d.see(31, 0, 1), -1);
        d.due("tower 2", d.see(0, 2, 1), -1);
        d.due("tone 10", d.see(0, 0, 10), -1);
        d.due("the second row", d.see(0, 0, 1, 0, 0, 255), -1);
        d.due("seventeen rows", d.see(new int[51]), -1);
        d.due("all stays", d.x.has(6), 2);
        d.due("status(1)", d.x.status(1), 8);
        d.due("the tape went", d.x.end(1), false);
        d.due("sixteen rows", d.see(new int[48]), 16);
        d.due("moods(0)", d.x.moods(0), 1);
        d.x.rounds(1);
        d.x.undo();
        d.due("acts leave what is seen", d.x.has(6), 16);
    }

    private static void telling() {
        Desk d = new Desk("promise 23");
        d.castle("call 9;tower a mood 5 cheer 0;tower b mood 3 cheer 0;");
        d.due("tells(0, 0)", d.x.tells(0, 0), 0);
        d.due("tells(0, 1)", d.x.tells(0, 1), 0);
        // at first a hears 9: each mood tells itself
        d.due("tells(0, 2)", d.x.tells(0, 2), 1);
        // b hears 5: moods 5 .. 9 tell alike
        d.due("tells(1, 0)", d.x.tells(1, 0), 0);
        d.due("tells(1, 1)", d.x.tells(1, 1), 1);
        d.due("tells(1, 2)", d.x.tells(1, 2), 5);
        d.due("tells(1, 3)", d.x.tells(1, 3), -1);
        d.due("tells(1, -1)", d.x.tells(1, -1), -1);
        d.due("tells(2, 0)", d.x.tells(2, 0), -1);
        d.due("tells(-1, 0)", d.x.tells(-1, 0), -1);
        d.see(0, 1, 5);
        d.due("tells(1, 2) of these left", d.x.tells(1, 2), 5);
        d.see(0, 1, 9);
        d.due("tells(1, 0) without a mood", d.x.tells(1, 0), -1);
        d.castle("call 9;tower a mood 5 cheer 0;says 5;feels mood;");
        d.due("the first of like ones", d.x.tells(0, 0), 0);
        d.due("none tells", d.x.tells(0, 2), 10);
        d.castle("call 9;tower a mood 5 cheer 0;says mood*(round/30);");
        d.due("the farthest", d.x.tells(0, 0), 30);
        d.castle("call 9;tower a mood 5 cheer 0;says mood*(round/31);");
        d.due("beyond the farthest", d.x.tells(0, 2), 10);
    }

    private static void cheerYesChange() {
        Desk d = new Desk("promises 24, 25, 26");
        d.castle(THREE);
        d.due("cheer(0, 9)", d.x.cheer(0, 9), true);
        d.due("tower(0, 1)", d.x.tower(0, 1), 9);
        d.due("cheer(0, 9) again", d.x.cheer(0, 9), false);
        d.due("cheer(0, 10)", d.x.cheer(0, 10), false);
        d.due("cheer(0, -1)", d.x.cheer(0, -1), false);
        d.due("cheer(3, 0)", d.x.cheer(3, 0), false);
        d.due("cheer(-1, 0)", d.x.cheer(-1, 0), false);
        d.due("status(2)", d.x.status(2), 5);
        d.due("yes(2, 1) already", d.x.yes(2, 1), false);
        d.due("yes(2, 0)", d.x.yes(2, 0), true);
        d.due("yes(2, 0) already", d.x.yes(2, 0), false);
        d.due("yes(0, 1)", d.x.yes(0, 1), true);
        d.due("has(3)", d.x.has(3), 1);
        d.due("yes(0, 2)", d.x.yes(0, 2), false);
        d.due("yes(0, -1)", d.x.yes(0, -1), false);
        d.due("yes(3, 1)", d.x.yes(3, 1), false);
        d.due("yes(-1, 1)", d.x.yes(-1, 1), false);
        d.due("status(2)", d.x.status(2), 11);
        d.due("change(0, 1)", d.x.change(0, 1), true);
        int[][] want = {{2, 3, 1}, {5, 9, 0}, {8, 0, 0}};
        for (int t = 0; t < 3; t++) {
            for (int what = 0; what < 3; what++) {
                d.due("tower(" + t + ", " + what + ")", d.x.tower(t, what), want[t][what]);
            }
        }
        d.due("change(0, 0)", d.x.change(0, 0), false);
        d.due("change(0, 3)", d.x.change(0, 3), false);
        d.due("change(-1, 0)", d.x.change(-1, 0), false);
        d.due("status(2)", d.x.status(2), 14);
        d.due("has(7)", d.x.has(7), 4);
    }

    private static void roundsGo() {
        Desk d = new Desk("promise 27");
        d.due("without a castle", d.x.rounds(1), -1);
        d.castle("call 9;tower a mood 9 cheer 0;tower b mood 9 cheer 0;says 9-round;feels tone;fires 2;");
        d.due("rounds(0)", d.x.rounds(0), -1);
        d.due("rounds(101)", d.x.rounds(101), -1);
        d.due("rounds(-1)", d.x.rounds(-1), -1);
        d.due("status(3)", d.x.status(3), 4);
        d.due("rounds(6)", d.x.rounds(6), 0);
        d.due("rounds(3)", d.x.rounds(3), 3);
        d.due("has(1)", d.x.has(1), 9);
        d.due("has(2)", d.x.has(2), 1);
        d.due("tower(0, 0)", d.x.tower(0, 0), 1);
        d.due("rounds(100)", d.x.rounds(100), 100);
        d.due("has(7)", d.x.has(7), 3);
        d.castle("call 4;");
        d.due("without towers", d.x.rounds(100), 0);
        d.due("has(1)", d.x.has(1), 100);
        d.due("has(2)", d.x.has(2), 4);
    }

    private static void chances() {
        Desk d = new Desk("promise 28");
        d.due("without a castle", d.x.chance(1), -1);
        d.castle("call 9;tower a mood 9 cheer 0;tower b mood 9 cheer 0;tower c mood 9 cheer 0;cold 40;");
        d.due("chance(0)", d.x.chance(0), -1);
        d.due("chance(101)", d.x.chance(101), -1);
        d.due("status(3)", d.x.status(3), 3);
        long x = 1;
        int[] moods = {9, 9, 9};
        int colds = 0;
        for (int k = 0; k < 12; k++) {
            x = (1103515245L * x + 12345) % 2147483648L;
            if (x / 64 % 100 < 40) {
                x = (1103515245L * x + 12345) % 2147483648L;
                int t = (int) (x / 64 % 3);
                moods[t] = Math.max(0, moods[t] - 2);
                colds++;
            }
        }
        d.due("chance(12)", d.x.chance(12), colds);
        for (int t = 0; t < 3; t++) {
            d.due("tower(" + t + ", 0)", d.x.tower(t, 0), moods[t]);
        }
        d.due("has(1)", d.x.has(1), 12);
        d.due("one act", d.x.has(7), 1);
        d.castle("call 9;tower a mood 3 cheer 0;cold 100;");
        d.due("all colds", d.x.chance(3), 3);
        d.due("0 at least", d.x.tower(0, 0), 0);
        // the cold comes ahead of the round: 1, 0, 0 are said
        d.castle("call 9;tower a mood 3 cheer 0;cold 100;fires 1;well 2;");
        d.x.chance(3);
        d.due("fires are kept", d.x.has(5), 3);
        d.castle("call 9;tower a mood 3 cheer 0;cold 0;");
        d.due("no colds", d.x.chance(100), 0);
        d.castle("call 9;cold 100;");
        d.due("without towers", d.x.chance(100), 0);
    }

    private static void undone() {
        Desk d = new Desk("promise 29");
        d.due("undo()", d.x.undo(), false);
        d.castle(LOW);
        d.due("undo()", d.x.undo(), false);
        d.due("status(4)", d.x.status(4), 2);
        d.x.rounds(2);
        d.x.change(0, 1);
        d.x.yes(2, 1);
        d.x.rounds(1);
        d.due("has(7)", d.x.has(7), 4);
        d.due("undo()", d.x.undo(), true);
        d.due("has(1)", d.x.has(1), 2);
        d.due("tower(2, 2)", d.x.tower(2, 2), 1);
        d.due("undo()", d.x.undo(), true);
        d.due("tower(2, 2)", d.x.tower(2, 2), 0);
        d.due("tower(0, 0)", d.x.tower(0, 0), 9);
        d.due("undo()", d.x.undo(), true);
        d.due("tower(0, 0)", d.x.tower(0, 0), 1);
        d.due("has(2)", d.x.has(2), 1);
        d.due("undo()", d.x.undo(), true);
        d.due("has(1)", d.x.has(1), 0);
        d.due("has(2)", d.x.has(2), 3);
        d.due("has(5)", d.x.has(5), 0);
        d.due("undo()", d.x.undo(), false);
        for (int k = 0; k < 25; k++) {
            d.x.cheer(0, 1 + k % 9);
        }
        d.due("has(7)", d.x.has(7), 20);
        for (int k = 24; k >= 5; k--) {
            d.due("undo()", d.x.undo(), true);
            d.due("tower(0, 1)", d.x.tower(0, 1), 1 + (k - 1) % 9);
        }
        d.due("undo()", d.x.undo(), false);
        d.due("tower(0, 1)", d.x.tower(0, 1), 5);
        // the seed stays: the second chance is another one
        d.castle("call 9;tower a mood 9 cheer 0;tower b mood 9 cheer 0;cold 50;");
        d.x.seed(5);
        int first = d.x.chance(3);
        int second = d.x.chance(100);
        d.x.undo();
        d.x.undo();
        d.x.seed(5);
        d.due("chance(3) by the seed", d.x.chance(3), first);
        d.x.undo();
        d.due("chance(100) by what stayed", d.x.chance(100), second);
    }

    private static void seeds() {
        Desk d = new Desk("promise 30");
        d.due("seed(-1)", d.x.seed(-1), false);
        d.due("status(5)", d.x.status(5), 1);
        d.due("seed(0)", d.x.seed(0), true);
        d.due("seed(max)", d.x.seed(Integer.MAX_VALUE), true);
        d.castle("call 9;tower a mood 9 cheer 0;tower b mood 9 cheer 0;cold 100;");
        d.x.chance(1);
        long x = (1103515245L * Integer.MAX_VALUE + 12345) % 2147483648L;
        x = (1103515245L * x + 12345) % 2147483648L;
        d.due("the cold one", d.x.tower((int) (x / 64 % 2), 0), 7);
        d.due("has(7)", d.x.has(7), 1);
    }

    /** Texts, each with its answer behind it. */
    private static void answers(Desk d, Object... pairs) {
        for (int k = 0; k < pairs.length; k += 2) {
            d.due("ask() of " + pairs[k], d.ask((String) pairs[k]), (Integer) pairs[k + 1]);
        }
    }

    private static void questions() {
        Desk d = new Desk("promise 31");
        d.due("without a castle", d.ask("often all"), AllIsWell.NOTHING);
        d.castle("call 5");
        d.due("without a castle", d.ask("often all"), AllIsWell.NOTHING);
        d.due("it does nothing else", d.x.fault(0), 1);
        d.due("the tape went", d.x.end(1), false);
        d.castle("call 5;");
        d.due("first without towers", d.ask("first all"), -1);
        d.due("most without towers", d.ask("most 5"), 0);
        d.due("least without towers", d.ask("least 0-5"), 0);
        d.due("total without towers", d.ask("total 5"), 0);
        d.due("often without towers", d.ask("often all"), 0);
        d.castle(THREE + "feels tone;");
        // ann says 6 and feels so, bob 5, cid 9
        answers(d, "first mood>4", 0, "last mood>4", 2, "often mood>4", 2, "often mood<5", 1, "often mood=5", 1);
        answers(d, "first mood>8", -1, "last mood>8", -1, "\n last\nall ", 2, "first(1)=1", 0, "first[all]", 0);
        answers(d, "total mood*10+cheer", 154, "most cheer-mood", 1, "least cheer-mood", -8);
        answers(d, "total number", 3, "total yes", 1, "total round", 0, "total tone", 20, "total glad", 20);
        answers(d, "total heard 0", 20, "total heard 31", -3, "total heard (0-1)", -3);
        answers(d, "often not all", 0, "often not not all", 3, "often not mood>4 and yes=1", 0);
        answers(d, "often mood>4 and cheer>0 or yes=1", 2, "often mood>4 and [cheer>0 or yes=1]", 2);
        answers(d, "often [all]", 3, "often all or all and not all", 3, "often [all or all] and not all", 0);
        answers(d, "total min(mood,4)", 10, "total max(mood,4)+1", 20, "total 0-7/2", -9, "total (0-7)/2", -12);
        answers(d, "total 9999*9999", 3000000, "total (0-9999)*9999", -3000000, "total 7/0", 0);
        for (int k = 0; k <= 30; k++) {
            long said = d.x.tone(0, k) + d.x.tone(1, k) + d.x.tone(2, k);
            d.due("total heard " + k, d.ask("total heard " + k), said);
        }
        d.due("total heard(1+1)", d.ask("total heard(1+1)"), d.ask("total heard 2"));
        d.due("total heard number", d.ask("total heard number"), d.x.tone(0, 0) + d.x.tone(1, 1) + d.x.tone(2, 2));
        d.due("heard takes a part alone", d.ask("total heard number*2"), 2 * d.ask("total heard number"));
        d.due("heard of heard", d.ask("most heard heard number"),
            Math.max(d.x.tone(0, d.x.tone(0, 0)), Math.max(d.x.tone(1, d.x.tone(1, 1)), d.x.tone(2, d.x.tone(2, 2)))));
        d.x.rounds(3);
        d.due("total round", d.ask("total round"), 9);
        d.due("all stays", d.x.has(1), 3);
    }

    private static void questionFaults() {
        Desk d = new Desk("promises 5, 31, faults");
        d.castle(THREE);
        d.askFault("", 1, 0);
        d.askFault("  ", 1, 2);
        d.askFault("x", 1, 0);
        d.askFault(" mood", 1, 1);
        d.askFault("5", 1, 0);
        d.askFault("often", 1, 5);
        d.askFault("often ", 1, 6);
        d.askFault("often mood", 1, 10);
        d.askFault("often mood>", 1, 11);
        d.askFault("often mood>>", 1, 11);
        d.askFault("often mood>5>4", 1, 12);
        d.askFault("often all all", 1, 10);
        d.askFault("often all;", 1, 9);
        d.askFault("often all 5", 1, 10);
        d.askFault("often all5", 1, 9);
        d.askFault("often5>4", 1, 5);
        d.askFault("often 5>4or all", 1, 9);
        d.askFault("often 1=1and 2=2", 1, 9);
        d.askFault("total heard3", 1, 11);
        d.askFault("total place", 1, 6);
        d.askFault("total sigh", 1, 6);
        d.askFault("total ann", 1, 6);
        d.askFault("total all", 1, 6);
        d.askFault("total mood>5", 1, 10);
        d.askFault("total 12345", 1, 10);
        d.askFault("total mood 12345", 1, 11);
        d.askFault("total heard", 1, 11);
        d.askFault("total heard heard", 1, 17);
        d.askFault("often [all", 1, 10);
        d.askFault("often [all)", 1, 10);
        d.askFault("often (all)", 1, 7);
        d.askFault("often [mood]", 1, 11);
        d.askFault("often ([all])", 1, 7);
        d.askFault("often all or", 1, 12);
        d.askFault("often all and or", 1, 14);
        d.askFault("often not", 1, 9);
        d.askFault("total ((((((1))))))", 0, -1);
        d.askFault("total (((((((1)))))))", 4, 12);
        d.askFault("often not not not not not not all", 0, -1);
        d.askFault("often not not not not not not not all", 4, 30);
        d.askFault("often [[[[[[[all", 4, 12);
        d.askFault("total heard heard heard heard heard heard 1", 0, -1);
        d.askFault("total heard heard heard heard heard heard heard 1", 4, 42);
        d.askFault("often not [not [heard (1)=1]]", 0, -1);
        d.askFault("often not [not [heard (heard 1)=1]]", 4, 23);
        d.askFault("often not [not [heard ((1))=1]]", 4, 23);
        d.askFault("often not [not [heard min(1,2)=1]]", 0, -1);
        d.askFault("often not [not [heard (min(1,2))=1]]", 4, 26);
        d.askFault("often not not not not not not (1)=1", 4, 30);
        d.askFault("often not all and not all and not all and not all and not all and not all and not all", 0, -1);
        d.askFault("total heard 1+heard 1+heard 1+heard 1+heard 1+heard 1+heard 1", 0, -1);
        d.askFault("often heard 1=1 and [not[(((1)))=1]]", 0, -1);
        d.askFault("often heard 1=1 and [not[((((1))))=1]]", 4, 28);
        d.due("status(1) counts no question", d.x.status(1), 0);
        d.castle("call 5;");
        d.due("fault(0)", d.x.fault(0), 0);
    }

    private static void images() {
        Desk d = new Desk("promises 32, 33, 34");
        d.due("octet(0)", d.x.octet(0), -1);
        d.due("on() without a castle", d.on(Desk.checked(0, 0, 0)), false);
        d.castle(THREE);
        d.x.rounds(100);
        d.x.rounds(100);
        d.x.rounds(100);
        int[] want = Desk.checked(1, 44, 9, 5, 1, 0, 2, 3, 0, 8, 0, 1);
        int[] got = d.image();
        d.due("image()", got.length, want.length);
        for (int k = 0; k < want.length; k++) {
            d.due("octet(" + k + ")", got[k], want[k]);
        }
        d.due("octet(13)", d.x.octet(13), -1);
        d.due("octet(-1)", d.x.octet(-1), -1);
        d.x.cheer(0, 7);
        d.due("octet(4) is of then", d.x.octet(4), 1);
        d.castle("call 1;");
        d.due("octet(4) is of the latest image()", d.x.octet(4), 1);
        d.due("on() of another castle", d.on(got), false);
        d.castle(THREE);
        d.see(0, 0, 1);
        d.x.cheer(0, 7);
        d.due("on()", d.on(got), true);
        d.due("has(1)", d.x.has(1), 300);
        d.due("has(2)", d.x.has(2), 9);
        d.due("has(3)", d.x.has(3), 1);
        d.due("has(7)", d.x.has(7), 0);
        d.due("tower(0, 1)", d.x.tower(0, 1), 1);
        d.due("the tape went", d.x.end(1), false);
        int[][] none = {
            {}, {1, 2, 3}, want.clone(), Desk.checked(3, 232, 9, 5, 1, 0, 2, 3, 0, 8, 0, 1),
            Desk.checked(1, 44, 10, 5, 1, 0, 2, 3, 0, 8, 0, 1), Desk.checked(1, 44, 9, 10, 1, 0, 2, 3, 0, 8, 0, 1),
            Desk.checked(1, 44, 9, 5, 10, 0, 2, 3, 0, 8, 0, 1), Desk.checked(1, 44, 9, 5, 1, 2, 2, 3, 0, 8, 0, 1),
            Desk.checked(1, 44, 9, 5, 1, 0, 2, 3, 0), Desk.checked(1, 44, 9, 5, 1, 0, 2, 3, 0, 8, 0, 1, 0, 0, 0)};
        none[2][12] ^= 1;
        int refused = d.x.status(5);
        for (int k = 0; k < none.length; k++) {
            d.due("on() of none, " + k, d.on(none[k]), false);
            d.due("status(5)", d.x.status(5), refused + k + 1);
        }
        d.due("all stays", d.x.has(1), 300);
        d.due("on()", d.on(Desk.checked(3, 231, 0, 9, 9, 1, 0, 0, 1, 9, 9, 1)), true);
        d.due("has(1)", d.x.has(1), 999);
        d.due("has(3)", d.x.has(3), 3);
        d.castle(LOW);
        d.x.rounds(5);
        d.due("has(5)", d.x.has(5), 5);
        d.due("on()", d.on(d.image()), true);
        d.due("nothing is kept", d.x.has(5), 0);
        d.due("nothing can be undone", d.x.undo(), false);
    }

    private static void lastRound() {
        Desk d = new Desk("round 999");
        d.castle("call 9;tower a mood 2 cheer 0;fires 1;");
        d.on(Desk.checked(3, 229, 9, 2, 0, 0));
        d.due("has(1)", d.x.has(1), 997);
        d.due("tone(0, 1)", d.x.tone(0, 1), 2);
        d.due("tone(0, 2)", d.x.tone(0, 2), -1);
        d.due("mood(0, 2)", d.x.mood(0, 2), 2);
        d.due("mood(0, 3)", d.x.mood(0, 3), -1);
        d.due("doubts(1)", d.x.doubts(1), 1);
        d.due("doubts(2)", d.x.doubts(2), -1);
        d.due("rule(1, 2)", d.x.rule(1, 2), 2);
        d.due("rule(1, 3)", d.x.rule(1, 3), -1);
        d.due("rule(1, 60)", d.x.rule(1, 60), -1);
        d.due("cheered(2)", d.x.cheered(2), 1);
        d.due("cheered(3)", d.x.cheered(3), -1);
        d.due("sighs(2)", d.x.sighs(2), 0);
        d.due("sighs(3)", d.x.sighs(3), -1);
        d.due("better(2, 0)", d.x.better(2, 0), 0);
        d.due("better(3, 0)", d.x.better(3, 0), -1);
        d.due("better(3, 1)", d.x.better(3, 1), -1);
        d.due("total heard 1", d.ask("total heard 1"), 2);
        d.due("total heard 2", d.ask("total heard 2"), -1);
        d.see(1, 0, 2);
        d.due("moods(0)", d.x.moods(0), 1 << 2);
        d.see(2, 0, 2);
        d.due("moods(0)", d.x.moods(0), 0);
        d.due("rounds(3)", d.x.rounds(3), -1);
        d.due("chance(3)", d.x.chance(3), -1);
        d.due("status(3)", d.x.status(3), 2);
        d.due("rounds(2)", d.x.rounds(2), 2);
        d.due("kept(1, 0)", d.x.kept(1, 0), 998);
        d.due("has(1)", d.x.has(1), 999);
        d.due("rounds(1)", d.x.rounds(1), -1);
        d.due("tone(0, 0)", d.x.tone(0, 0), -1);
        d.due("mood(0, 0)", d.x.mood(0, 0), 2);
        d.due("doubts(0)", d.x.doubts(0), -1);
        d.due("fire()", d.x.fire(), -1);
        d.due("settles(0)", d.x.settles(0), -1);
        d.due("game(0)", d.x.game(0), -1);
        d.due("game(1)", d.x.game(1), -1);
        d.due("better(1, 0)", d.x.better(1, 0), -1);
        d.due("sighs(1)", d.x.sighs(1), -1);
        d.due("cheered(1)", d.x.cheered(1), -1);
        d.due("rule(8, 1)", d.x.rule(8, 1), -1);
        d.due("total tone", d.ask("total tone"), -1);
        d.due("total glad", d.ask("total glad"), -1);
        d.due("total mood", d.ask("total mood"), 2);
        d.castle("call 9;tower a mood 2 cheer 0;");
        d.on(Desk.checked(3, 231, 9, 2, 0, 0));
        d.due("moods(0) of nothing seen", d.x.moods(0), 1023);
        d.due("tells(0, 0), no round comes", d.x.tells(0, 0), -1);
        d.castle("call 9;tower a mood 0 cheer 0;tower b mood 9 cheer 0;");
        d.on(Desk.checked(3, 230, 9, 0, 0, 0, 9, 0, 0));
        d.due("placed(1, 0)", d.x.placed(1, 0), 0);
        d.due("placed(1, 1)", d.x.placed(1, 1), 1);
        d.due("placed(1, 2)", d.x.placed(1, 2), 1);
        d.due("placed(2, 0)", d.x.placed(2, 0), -1);
        d.due("placed(2, 2)", d.x.placed(2, 2), -1);
    }

    private static void statuses() {
        Desk d = new Desk("promise 35");
        d.x.end(1);
        d.x.castle();
        d.x.see();
        d.x.cheer(0, 0);
        d.x.yes(0, 0);
        d.x.change(0, 0);
        d.x.rounds(1);
        d.x.chance(1);
        d.x.undo();
        d.x.seed(-5);
        d.x.on();
        int[] want = {1, 2, 3, 2, 1, 2};
        for (int what = 0; what < 6; what++) {
            d.due("status(" + what + ")", d.x.status(what), want[what]);
        }
        d.due("status(6)", d.x.status(6), -1);
        d.due("status(-1)", d.x.status(-1), -1);
    }
}
