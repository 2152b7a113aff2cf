/** Terms I and IV as texts: each sentence that names a boundary, on both sides of it, and the places of FAULTS. */
public final class TextEdgeTests {
    private static final String OWN_WORDS = "call tower mood cheer yes says feels well fires cold heard round place sigh tone "
        + "number glad or and not all min max";
    private static final String ASKING_WORDS = "first last often total most least";
    /** Bytes that are neither letter, digit nor blank, nor a sign of a castle. */
    private static final String STRANGE = "\u0000\t\r!?A_[]<>=\u0080\u00e9\u00ff";

    public static void main(String[] args) {
        statements();
        theSixtyFirst();
        theCall();
        theCallAlone();
        withoutStatement();
        moodAndCheer();
        eightTowers();
        yesOfTowers();
        saysAndFeelsOnce();
        wellFiresCold();
        theLastCounts();
        noneOfBefore();
        inEitherOrder();
        theLongest();
        digits();
        fifthDigit();
        namesOfLetters();
        seventhLetter();
        ownWordsAreNoNames();
        unlikeNames();
        toldAhead();
        blanks();
        sideBySide();
        wordsOfSums();
        sixOpen();
        endsTooSoon();
        strangeBytes();
        theFirstAlongTheText();
        questionWords();
        questionsEnd();
        behindTheQuestion();
        sixOpenInQuestions();
        notUntilItsFact();
        heardUntilItsPart();
        factsWithoutSign();
        theLongestQuestion();
        faultsLeaveNothing();
        Desk.close("TextEdgeTests");
    }

    // ---- what the tests share

    private static String statements(int n) {
        return "call 5;" + "well 5;".repeat(n - 1);
    }

    private static String towers(int n) {
        StringBuilder s = new StringBuilder("call 9;");
        for (int t = 0; t < n; t++) {
            s.append("tower ").append((char) ('a' + t)).append(" mood 9 cheer 0;");
        }
        return s.toString();
    }

    /** A number between two texts: from least to most it can be, next to them it is FAULT 2. */
    private static void bounds(String sentence, String ahead, String behind, int least, int most) {
        Desk d = new Desk(sentence);
        d.good(ahead + least + behind);
        d.good(ahead + most + behind);
        d.fault(ahead + (most + 1) + behind, 2, ahead.length());
        d.fault(ahead + 9999 + behind, 2, ahead.length());
        if (least > 0) {
            d.fault(ahead + (least - 1) + behind, 2, ahead.length());
        }
        d.fault(ahead + "-1" + behind, 1, ahead.length());
    }

    // ---- I, statements

    private static void statements() {
        Desk d = new Desk("I: { STATEMENT ; } (60 at most)");
        for (int n : new int[] {1, 2, 59, 60}) {
            d.x = new AllIsWell();
            d.due(n + " statements", d.castle(statements(n)), n);
        }
        d.x = new AllIsWell();
        d.due("61 statements", d.castle(statements(61)), -1);
        d.x = new AllIsWell();
        d.due("60 statements and blanks", d.castle(statements(60) + " \n"), 60);
    }

    private static void theSixtyFirst() {
        Desk d = new Desk("I, FAULT 5: a 61st STATEMENT (whatever stands there), at its first byte");
        for (String any : new String[] {"well 5;", "well 0;", "tower a mood 1 cheer 1;", "call 5;", "x", ";", "7", "(", "\t", "\u0000"}) {
            d.fault(statements(60) + any, 5, 420);
            d.fault(statements(60) + "\n " + any, 5, 422);
        }
        d.fault(statements(59) + ";", 1, 413);
        d.fault(statements(59) + "call 5;", 1, 413);
        d.fault(statements(59) + "well 0;", 2, 418);
        d.fault(statements(60).substring(0, 419), 1, 419);
    }

    private static void theCall() {
        bounds("I: call N (0 .. 9)", "call ", ";", 0, 9);
        Desk d = new Desk("I: call N");
        d.castle("call 0;");
        d.due("has(2) of call 0", d.x.has(2), 0);
        d.castle("call 9;");
        d.due("has(2) of call 9", d.x.has(2), 9);
    }

    private static void theCallAlone() {
        Desk d = new Desk("I: call is the first STATEMENT, and it alone");
        for (String other : new String[] {"tower a mood 1 cheer 1;", "says 1;", "feels 1;", "well 5;", "fires 1;", "cold 1;", ";"}) {
            d.fault(other + "call 5;", 1, 0);
        }
        d.good("call 5;well 5;");
        d.fault("call 5;call 5;", 1, 7);
        d.fault("call 5;well 5;call 10;", 1, 14);
    }

    private static void withoutStatement() {
        Desk d = new Desk("promise 4: one without a STATEMENT has FAULT 1 at its length");
        d.fault("", 1, 0);
        d.fault(" ", 1, 1);
        d.fault("\n", 1, 1);
        d.fault(" ".repeat(1600), 1, 1600);
        d.good("call 5;" + " ".repeat(1593));
        d.good(" ".repeat(1593) + "call 5;");
    }

    private static void moodAndCheer() {
        bounds("I: mood N (0 .. 9)", "call 5;tower a mood ", " cheer 5;", 0, 9);
        bounds("I: cheer N (0 .. 9)", "call 5;tower a mood 5 cheer ", ";", 0, 9);
        Desk d = new Desk("I: mood N cheer N");
        d.castle("call 5;tower a mood 0 cheer 9;tower b mood 9 cheer 0;");
        d.due("tower(0, 0)", d.x.tower(0, 0), 0);
        d.due("tower(0, 1)", d.x.tower(0, 1), 9);
        d.due("tower(1, 0)", d.x.tower(1, 0), 9);
        d.due("tower(1, 1)", d.x.tower(1, 1), 0);
    }

    private static void eightTowers() {
        Desk d = new Desk("I: 8 TOWERS; FAULT 5: one too many of a kind, at its first byte");
        for (int n : new int[] {0, 1, 7, 8}) {
            d.x = new AllIsWell();
            d.due(n + " towers", d.castle(towers(n)), n + 1);
            d.due("has(0)", d.x.has(0), n);
        }
        for (int t = 0; t < 8; t++) {
            d.due("in the ring as told: letter(" + t + ", 0)", d.x.letter(t, 0), t + 1);
        }
        int length = towers(8).length();
        d.fault(towers(9), 5, length);
        d.fault(towers(8) + "\n tower i mood 9 cheer 0;", 5, length + 2);
        d.fault(towers(8) + "tower a mood 9 cheer 0;", 5, length);
        d.fault(towers(8) + "tower 5", 5, length);
        d.fault(towers(8) + "tower", 5, length);
        d.fault(towers(8) + "towers", 1, length);
        d.fault(towers(7) + "tower 5", 1, towers(7).length() + 6);
        d.good(towers(8) + "yes a;well 1;");
    }

    private static void yesOfTowers() {
        Desk d = new Desk("I: yes NAME (a TOWER, not told so already); FAULT 3, at it");
        StringBuilder all = new StringBuilder(towers(8));
        for (char c = 'a'; c <= 'h'; c++) {
            all.append("yes ").append(c).append(";");
        }
        d.due("yes of all eight", d.castle(all.toString()), 17);
        d.due("has(3)", d.x.has(3), 8);
        d.fault(all + "yes a;", 3, all.length() + 4);
        d.fault(all + "yes h;", 3, all.length() + 4);
        d.fault(towers(2) + "yes c;", 3, towers(2).length() + 4);
        d.fault(towers(2) + "yes b;yes  b;", 3, towers(2).length() + 11);
        d.good(towers(2) + "yes b;yes a;");
        d.fault("call 5;yes a;", 3, 11);
    }

    private static void saysAndFeelsOnce() {
        Desk d = new Desk("I: says SUM, feels SUM (one each); FAULT 5: a second says, feels, too");
        d.good("call 5;");
        d.good("call 5;says 1;");
        d.good("call 5;feels 1;");
        d.good("call 5;says 1;feels 1;");
        d.good("call 5;feels 1;says 1;");
        d.fault("call 5;says 1;feels 1;says 1;", 5, 22);
        d.fault("call 5;says 1;feels 1; feels 1;", 5, 23);
        d.fault("call 5;says 1;says", 5, 14);
        d.fault("call 5;feels 1;feels", 5, 15);
        d.fault("call 5;says 0;says 0;", 5, 14);
        d.fault("call 5;says 1;say 1;", 1, 14);
    }

    private static void wellFiresCold() {
        bounds("I: well N (1 .. 9)", "call 5;well ", ";", 1, 9);
        bounds("I: fires N (1 .. 8)", "call 5;fires ", ";", 1, 8);
        bounds("I: cold N (0 .. 100)", "call 5;cold ", ";", 0, 100);
    }

    private static void theLastCounts() {
        Desk d = new Desk("I: the last one of each counts (4, 3, 0 without)");
        String four = "tower a mood 3 cheer 0;tower b mood 3 cheer 0;tower c mood 3 cheer 0;tower d mood 4 cheer 0;says mood;";
        d.castle("call 9;" + four);
        d.due("well is 4 without: 3 is doubtful, 4 is not", d.x.doubts(0), 3);
        d.due("fires is 3 without: three are a fire", d.x.fire(), 0);
        d.due("cold is 0 without", d.x.chance(100), 0);
        d.castle("call 9;" + four.replace("tower c mood 3", "tower c mood 4"));
        d.due("fires is 3 without: two are none", d.x.fire(), -1);
        d.castle("call 9;" + four + "well 9;well 3;");
        d.due("the last well", d.x.doubts(0), 0);
        d.castle("call 9;" + four + "well 3;well 9;");
        d.due("the last well", d.x.doubts(0), 4);
        d.castle("call 9;" + four + "fires 3;fires 4;");
        d.due("the last fires", d.x.fire(), -1);
        d.castle("call 9;" + four + "fires 4;fires 3;");
        d.due("the last fires", d.x.fire(), 0);
        d.castle("call 9;" + four + "cold 0;cold 100;");
        d.due("the last cold", d.x.chance(10), 10);
        d.castle("call 9;" + four + "cold 100;cold 0;");
        d.due("the last cold", d.x.chance(10), 0);
        d.castle("call 9;" + four);
        d.due("none of an earlier castle's", d.x.doubts(0) + d.x.chance(10), 3);
    }

    private static void noneOfBefore() {
        Desk d = new Desk("I: (4, 3, 0 without), whatever an earlier castle told");
        String three = "tower a mood 3 cheer 0;tower b mood 3 cheer 0;tower c mood 3 cheer 0;tower d mood 4 cheer 0;";
        for (int k = 0; k < 3; k++) {
            d.castle("call 9;" + three + "well 9;fires 8;cold 100;says 0;feels 9;yes a;");
            d.castle("call 9;" + three + "well 1;fires 1;cold 100;says 0;feels 9;yes a;");
        }
        for (int k = 0; k < 2; k++) {
            d.castle("call 4;" + three);
            d.due("well is 4, says and yes are untold", d.x.doubts(0), 4);
            d.due("feels is untold", d.x.mood(0, 1), 3);
            d.due("has(3)", d.x.has(3), 0);
            d.castle("call 4;" + three.replace("tower c mood 3", "tower c mood 4") + "says mood;");
            d.due("fires is 3: two are none", d.x.fire(), -1);
            d.castle("call 4;" + three + "says mood;");
            d.due("fires is 3: three are one", d.x.fire(), 0);
            d.x.seed(SEED_OF_NOUGHT);
            d.due("cold is 0: a draw of 0 is not below", d.x.chance(1), 0);
        }
    }

    /** By this seed the first DRAW of 100 is 0. */
    private static final int SEED_OF_NOUGHT = seedOfNought();

    private static int seedOfNought() {
        int seed = 0;
        while ((1103515245L * seed + 12345L) % 2147483648L / 64 % 100 != 0) {
            seed++;
        }
        return seed;
    }

    private static void inEitherOrder() {
        Desk d = new Desk("I: says SUM, feels SUM, in either order");
        d.castle("call 5;tower a mood 1 cheer 2;says 3+4;feels 6;");
        d.due("says ahead: tone", d.x.tone(0, 0), 7);
        d.due("says ahead: mood", d.x.mood(0, 1), 6);
        d.castle("call 5;feels 6;tower a mood 1 cheer 2;says 3+4;");
        d.due("feels ahead: tone", d.x.tone(0, 0), 7);
        d.due("feels ahead: mood", d.x.mood(0, 1), 6);
        d.castle("call 5;feels 6;tower a mood 1 cheer 2;");
        d.due("feels alone: tone", d.x.tone(0, 0), 3);
        d.castle("call 5;says 6;tower a mood 1 cheer 2;");
        d.due("says alone: mood", d.x.mood(0, 1), 1);
    }

    private static void theLongest() {
        Desk d = new Desk("2, 4: a text of 1600 bytes");
        String text = "call 9;tower a mood 0 cheer 0;says (1" + "+1".repeat(778) + ")-772 ;";
        d.due("its length", text.length(), 1600);
        for (int k = 0; k < 3; k++) {
            d.due("castle() no. " + k, d.castle(text), 3);
            d.due("tone(0, 0)", d.x.tone(0, 0), 7);
            d.due("mood(0, 1)", d.x.mood(0, 1), 0);
        }
    }

    // ---- I, numbers and names

    /** The texts ahead of each place where a number is asked, and behind it. */
    private static final String[][] NUMBERS = {
        {"call ", ";"}, {"call 5;tower a mood ", " cheer 5;"}, {"call 5;tower a mood 5 cheer ", ";"}, {"call 5;well ", ";"},
        {"call 5;fires ", ";"}, {"call 5;cold ", ";"}, {"call 5;says ", ";"}, {"call 5;feels 1*(", ");"}};

    private static void digits() {
        Desk d = new Desk("I: N (1 to 4 digits)");
        for (String[] n : NUMBERS) {
            d.good(n[0] + "1" + n[1]);
            d.good(n[0] + "0001" + n[1]);
            d.fault(n[0] + n[1], 1, n[0].length() + (n[1].startsWith(" ") ? 1 : 0));
        }
        d.good("call 5;says 9999;");
        d.good("call 5;says 0000;");
        d.castle("call 5;tower a mood 1 cheer 0;says 9999/1111;");
        d.due("all four digits count", d.x.tone(0, 0), 9);
        d.castle("call 5;tower a mood 1 cheer 0;says 9999-9995;");
        d.due("all four digits count", d.x.tone(0, 0), 4);
    }

    private static void fifthDigit() {
        Desk d = new Desk("I, FAULT 1: where a number is asked, a 5th digit at itself");
        for (String[] n : NUMBERS) {
            d.fault(n[0] + "00001" + n[1], 1, n[0].length() + 4);
            d.fault(n[0] + "0000000001" + n[1], 1, n[0].length() + 4);
            d.fault(n[0] + "12345" + n[1], 1, n[0].length() + 4);
            d.fault(n[0] + "00001", 1, n[0].length() + 4);
        }
        d.fault("call 5 00001;", 1, 7);
        d.fault("call 5;says mood 00001;", 1, 17);
        d.fault("call 5;00001", 1, 7);
    }

    private static void namesOfLetters() {
        Desk d = new Desk("I: NAMES: 1 to 6 letters");
        for (String name : new String[] {"a", "z", "ab", "abcdef", "zzzzzz", "calls", "cal", "ormax", "first", "least"}) {
            d.due("a tower " + name, d.castle("call 5;tower " + name + " mood 1 cheer 1;yes " + name + ";"), 3);
            for (int k = 0; k < 6; k++) {
                d.due("letter(0, " + k + ") of " + name, d.x.letter(0, k), k < name.length() ? name.charAt(k) - 'a' + 1 : 0);
            }
        }
        d.fault("call 5;tower  mood 1 cheer 1;", 1, 14);
        d.fault("call 5;tower ;", 1, 13);
        d.fault("call 5;tower A mood 1 cheer 1;", 1, 13);
        d.fault("call 5;tower a`", 1, 14);
        d.fault("call 5;tower {", 1, 13);
        d.fault("call 5;tower 1a", 1, 13);
        d.fault("call 5;yes ;", 1, 11);
        d.fault("call 5;yes 1;", 1, 11);
    }

    private static void seventhLetter() {
        Desk d = new Desk("I, FAULT 1: where a NAME is asked, a 7th letter at itself");
        d.good("call 5;tower abcdef mood 1 cheer 1;yes abcdef;");
        d.fault("call 5;tower abcdefg mood 1 cheer 1;", 1, 19);
        d.fault("call 5;tower abcdefghijkl mood 1 cheer 1;", 1, 19);
        d.fault("call 5;tower abcdefg", 1, 19);
        d.fault("call 5;tower numbers mood 1 cheer 1;", 1, 19);
        d.fault("call 5;tower abcdef mood 1 cheer 1;tower abcdefg", 1, 47);
        d.fault("call 5;tower abcdef mood 1 cheer 1;yes abcdefg;", 1, 45);
        d.fault("call 5;towerss", 1, 7);
    }

    private static void ownWordsAreNoNames() {
        Desk d = new Desk("I, FAULT 1: where a NAME is asked, an OWN WORD at its first byte");
        for (String own : OWN_WORDS.split(" ")) {
            d.fault("call 5;tower " + own + " mood 1 cheer 1;", 1, 13);
            d.fault("call 5;tower " + own, 1, 13);
            d.fault("call 5;yes " + own + ";", 1, 11);
            String longer = own.length() < 6 ? own + "x" : own.substring(0, 5);
            d.good("call 5;tower " + longer + " mood 1 cheer 1;yes " + longer + ";");
            d.good("call 5;tower " + own.substring(0, own.length() - 1) + "q mood 1 cheer 1;");
        }
        for (String word : ASKING_WORDS.split(" ")) {
            d.good("call 5;tower " + word + " mood 1 cheer 1;");
        }
    }

    private static void unlikeNames() {
        Desk d = new Desk("I: NAMES are unlike ones; FAULT 3: a NAME to be given that is there already, at it");
        String first = "call 5;tower abcdef mood 1 cheer 1;";
        for (String other : new String[] {"a", "abcde", "abcdeg", "bbcdef", "fedcba"}) {
            d.good(first + "tower " + other + " mood 1 cheer 1;");
        }
        d.fault(first + "tower abcdef mood 1 cheer 1;", 3, 41);
        d.fault(first + "tower abcdef", 3, 41);
        d.fault(first + "tower g mood 1 cheer 1;tower\n abcdef;", 3, 65);
        String eight = towers(7) + "tower g mood 1 cheer 1;";
        d.fault(eight, 3, towers(7).length() + 6);
    }

    private static void toldAhead() {
        Desk d = new Desk("I: NAMES are told ahead of where they are asked");
        d.good("call 5;tower a mood 1 cheer 1;yes a;");
        d.fault("call 5;yes a;tower a mood 1 cheer 1;", 3, 11);
        d.fault("call 5;tower ab mood 1 cheer 1;yes a;", 3, 35);
        d.fault("call 5;tower a mood 1 cheer 1;yes ab;", 3, 34);
    }

    // ---- I, the text

    private static void blanks() {
        Desk d = new Desk("I: blanks (10, 32) are where one likes");
        String[] pieces = {"call", "5", ";", "tower", "a", "mood", "1", "cheer", "2", ";", "says", "min", "(", "mood", ",", "1",
            "+", "heard", ")", "-", "sigh", "*", "3", "/", "1", ";"};
        for (String gap : new String[] {" ", "\n", "  ", "\n\n", " \n ", "\n \n"}) {
            String text = gap + String.join(gap, pieces) + gap;
            d.due("with blanks " + gap.length() + ", " + (int) gap.charAt(0), d.castle(text), 3);
        }
        for (char none : new char[] {9, 11, 13, 31, 33, 0, 160}) {
            d.fault("call" + none + "5;", 1, 4);
            d.fault("call 5;" + none, 1, 7);
            d.fault(none + "call 5;", 1, 0);
        }
        d.good("call 5;tower a mood 1 cheer 1;says(mood)+min(1,2)*heard;feels(1);");
    }

    private static void sideBySide() {
        Desk d = new Desk("I: words and numbers side by side need a blank");
        d.fault("call5;", 1, 4);
        d.fault("call 5;tower a mood1 cheer 1;", 1, 19);
        d.fault("call 5;tower a mood 1cheer 1;", 1, 21);
        d.fault("call 5;tower a mood 1 cheer1;", 1, 27);
        d.fault("call 5;towera mood 1 cheer 1;", 1, 7);
        d.fault("call 5;tower amood 1 cheer 1;", 1, 19);
        d.fault("call 5;tower a5mood 1 cheer 1;", 1, 14);
        d.fault("call 5;well5;", 1, 11);
        d.fault("call 5;fires5;", 1, 12);
        d.fault("call 5;cold5;", 1, 11);
        d.fault("call 5;says1;", 1, 11);
        d.fault("call 5;feels1;", 1, 12);
        d.fault("call 5;says 1 2;", 1, 14);
        d.fault("call 5;says mood 2;", 1, 17);
        d.fault("call 5;says 2mood;", 1, 13);
        d.fault("call 5;says mood heard;", 1, 17);
        d.fault("call 5;tower a mood 1 cheer 1;yes a1;", 1, 35);
    }

    private static void wordsOfSums() {
        Desk d = new Desk("I: PART: in says: sigh; in feels: tone");
        String both = " heard mood cheer round place ";
        for (String word : (OWN_WORDS + " " + ASKING_WORDS + " x ann").split(" ")) {
            boolean pair = word.equals("min") || word.equals("max");
            sumWord(d, "call 5;says ", word, pair, both.contains(" " + word + " ") || word.equals("sigh"));
            sumWord(d, "call 5;feels ", word, pair, both.contains(" " + word + " ") || word.equals("tone"));
            sumWord(d, "call 5;says 1+(2*", word, pair, both.contains(" " + word + " ") || word.equals("sigh"));
        }
    }

    private static void sumWord(Desk d, String ahead, String word, boolean pair, boolean good) {
        String behind = ahead.contains("(") ? ");" : ";";
        if (pair) {
            d.fault(ahead + word + behind, 1, ahead.length() + 3);
            d.fault(ahead + word + "(1)" + behind, 1, ahead.length() + 5);
            d.fault(ahead + word + "(1,2,3)" + behind, 1, ahead.length() + 7);
            d.good(ahead + word + "(1,2)" + behind);
        } else if (good) {
            d.good(ahead + word + behind);
        } else {
            d.fault(ahead + word + behind, 1, ahead.length());
        }
    }

    private static void sixOpen() {
        Desk d = new Desk("I, FAULT 4: the 7th ( that is open at once, at it");
        String ahead = "call 5;says ";
        d.good(ahead + "((((((1))))));");
        d.fault(ahead + "(((((((1)))))));", 4, 18);
        d.fault(ahead + "(((((((", 4, 18);
        d.fault(ahead + "( ( ( ( ( ( (", 4, 24);
        d.good(ahead + "((((((1))))))+((((((1))))));");
        d.fault(ahead + "((((((1))))))+(((((((1)))))));", 4, 32);
        d.good(ahead + "((((((1)+(1))))));");
        d.fault(ahead + "((((((1)+((1)))))));", 4, 22);
        d.good(ahead + "min(min(min(min(min(min(1,2),2),2),2),2),2);");
        d.fault(ahead + "min(min(min(min(min(min(min(1,2),2),2),2),2),2),2);", 4, 39);
        d.fault(ahead + "min(1,max(1,min(1,max(1,min(1,max(1,(1)))))));", 4, 48);
        d.good(ahead + "min(1,max(1,min(1,max(1,min(1,(1))))));");
        d.good(ahead + "(((((min(1,2))))));");
        d.fault(ahead + "((((((min (1,2)))))));", 4, 22);
        d.fault("call 5;feels (((((((1)))))));", 4, 19);
        d.good("call 5;says ((((((1))))));feels ((((((1))))));");
    }

    private static void endsTooSoon() {
        Desk d = new Desk("I, FAULT 1: at the text's length, if it ends too soon; words whole, at their first byte");
        // the words of the text; those that begin with a ' are NAMES and numbers, which may be shorter too
        String[] pieces = {"call", "'5", ";", "tower", "'abcdef", "mood", "'0009", "cheer", "'8", ";", "says", "min", "(", "'1234", "+",
            "heard", ",", "round", "*", "(", "place", "-", "sigh", ")", ")", "/", "'2", ";", "feels", "tone", ";", "yes", "'abcdef", ";",
            "well", "'4", ";", "fires", "'3", ";", "cold", "'0100", ";"};
        StringBuilder text = new StringBuilder();
        int yes = 31;
        for (int k = 0; k < pieces.length; k++) {
            boolean free = pieces[k].startsWith("'");
            String piece = free ? pieces[k].substring(1) : pieces[k];
            for (int cut = 1; cut < piece.length(); cut++) {
                String cutText = text + piece.substring(0, cut);
                if (k == yes + 1) {
                    d.fault(cutText, 3, text.length());
                } else {
                    d.fault(cutText, 1, free ? cutText.length() : text.length());
                }
            }
            text.append(piece);
            tooSoon(d, text.toString(), piece.equals(";"));
            text.append(' ');
            tooSoon(d, text.toString(), piece.equals(";"));
        }
    }

    private static void tooSoon(Desk d, String text, boolean whole) {
        if (whole) {
            d.good(text);
        } else {
            d.fault(text, 1, text.length());
        }
    }

    private static void strangeBytes() {
        Desk d = new Desk("I, FAULT 1: the first byte with which no such text goes on");
        String[] begins = {"", "call", "call ", "call 5", "call 5;", "call 5;tower ", "call 5;tower a", "call 5;tower a mood ",
            "call 5;says ", "call 5;says 1", "call 5;says 1+", "call 5;says min", "call 5;says min(1", "call 5;well "};
        for (String begin : begins) {
            for (char strange : STRANGE.toCharArray()) {
                d.fault(begin + strange, 1, begin.length());
                d.fault(begin + " " + strange + ";", 1, begin.length() + 1);
            }
        }
    }

    private static void theFirstAlongTheText() {
        Desk d = new Desk("I: FAULTS, the first along the text");
        d.fault("call 10 x", 2, 5);
        d.fault("call 5 x 10;", 1, 7);
        d.fault("call 10;yes x;", 2, 5);
        d.fault("call 5;yes x;well 0;", 3, 11);
        d.fault("call 5;well 0;yes x;", 2, 12);
        d.fault("call 5;says (((((((1;well 0;", 4, 18);
        d.fault("call 5;well 0;says (((((((1;", 2, 12);
        d.fault("call 5;says 1;says (((((((", 5, 14);
        d.fault("call 5;says (((((((1;says 1;", 4, 18);
        d.fault("call 5;tower a mood 1 cheer 1;tower a mood 10 cheer 1;", 3, 36);
        d.fault("call 5;tower a mood 10 cheer 1;tower a mood 1 cheer 1;", 2, 20);
        d.fault(towers(8) + "tower a mood 10 cheer 1;", 5, towers(8).length());
        d.fault(towers(7) + "tower a mood 10 cheer 1;", 3, towers(7).length() + 6);
        d.fault("call 5;x " + statements(60), 1, 7);
    }

    // ---- IV

    private static final String WORLD = "call 7;tower ann mood 5 cheer 1;tower bob mood 2 cheer 3;";

    private static Desk asking(String sentence) {
        Desk d = new Desk(sentence);
        d.world = WORLD;
        return d;
    }

    private static void questionWords() {
        Desk d = asking("IV: PART: N; number; mood; cheer; round; tone; glad; yes; heard PART; FAULT 1: an unknown word at its first byte");
        String values = " number mood cheer round tone glad yes ";
        for (String word : (OWN_WORDS + " " + ASKING_WORDS + " x ann abcdefgh").split(" ")) {
            boolean asks = (" " + ASKING_WORDS + " ").contains(" " + word + " ");
            boolean pair = word.equals("min") || word.equals("max");
            d.askFault(word, 1, asks ? word.length() : 0);
            if (values.contains(" " + word + " ")) {
                d.askGood("total " + word);
                d.askGood("often 1=" + word);
            } else if (pair) {
                d.askFault("total " + word, 1, 9);
                d.askGood("total " + word + "(1,2)");
            } else if (word.equals("heard")) {
                d.askFault("total heard", 1, 11);
                d.askGood("total heard 5");
            } else {
                d.askFault("total " + word, 1, 6);
                d.askFault("often 1=" + word, 1, 8);
            }
        }
        d.askFault("total 12345", 1, 10);
        d.askGood("total 9999");
        d.askFault("often all or x", 1, 13);
        d.askFault("often all und all", 1, 10);
    }

    private static void questionsEnd() {
        Desk d = asking("IV, FAULT 1: a QUESTION that ends too soon, at its length");
        String[] pieces = {"often", "not", "[", "mood", "*", "'2", "<", "min", "(", "heard", "number", ",", "'0034", ")", "]", "and", "all",
            "or", "'1", "=", "glad"};
        // with these it may be at an end: behind the ] of its TEST, all, and what is compared
        String ends = "]all";
        StringBuilder text = new StringBuilder();
        for (int k = 0; k < pieces.length; k++) {
            boolean free = pieces[k].startsWith("'");
            String piece = free ? pieces[k].substring(1) : pieces[k];
            for (int cut = 1; cut < piece.length(); cut++) {
                d.askFault(text + piece.substring(0, cut), 1, free ? text.length() + cut : text.length());
            }
            text.append(piece);
            boolean whole = ends.contains(piece) || k == pieces.length - 1;
            d.askFault(text.toString(), whole ? 0 : 1, whole ? -1 : text.length());
            text.append('\n');
            d.askFault(text.toString(), whole ? 0 : 1, whole ? -1 : text.length());
        }
        d.askFault("", 1, 0);
        d.askFault("\n ", 1, 2);
    }

    private static void behindTheQuestion() {
        Desk d = asking("IV, FAULT 1: what stands behind it, too");
        for (String whole : new String[] {"first all", "last 1=1", "often [all]", "total mood", "most 5", "least (1)"}) {
            d.askGood(whole);
            d.askGood(whole + " \n");
            for (String more : new String[] {";", ")", "]", "all", "12345", "x", "\t", "first all", ","}) {
                d.askFault(whole + " " + more, 1, whole.length() + 1);
            }
        }
        d.askFault("total mood<1", 1, 10);
        d.askFault("often mood<1<2", 1, 12);
        d.askFault("total mood or all", 1, 11);
        d.askFault("often all+1", 1, 9);
    }

    private static void sixOpenInQuestions() {
        Desk d = asking("IV, FAULT 4: the 7th of ( [ not heard that is open at once, at it");
        String[] opens = {"( ", "[ ", "not ", "heard ", "min( "};
        for (String open : opens) {
            boolean sum = open.equals("( ") || open.equals("heard ") || open.equals("min( ");
            String ahead = sum ? "total " : "often ";
            int at = open.equals("min( ") ? 3 : 0;
            d.askFault(ahead + open.repeat(6), 1, ahead.length() + 6 * open.length());
            d.askFault(ahead + open.repeat(7), 4, ahead.length() + 6 * open.length() + at);
        }
        d.askGood("total ((((((1))))))");
        d.askGood("often [[[[[[all]]]]]]");
        d.askGood("often not not not not not not all");
        d.askGood("total heard heard heard heard heard heard 1");
        d.askFault("often [not [not [not [", 4, 21);
        d.askGood("often [not [not heard (1)=1]]");
        d.askGood("often [not [not heard heard 1=1]]");
        d.askFault("often [not [not heard heard (1)=1]]", 4, 28);
        d.askFault("often [not [not heard ((1))=1]]", 4, 23);
        d.askGood("often [[[[[[all]]]]]] and [[[[[[all]]]]]]");
        d.askFault("often [[[[[[all]]]]]] and [[[[[[[all]]]]]]]", 4, 32);
    }

    private static void notUntilItsFact() {
        Desk d = asking("IV: not is open until its FACT ends");
        String six = "not not not not not not ";
        d.askGood("often " + six + "all and " + six + "all or " + six + "all");
        d.askGood("often not 1=1 and [[[[[[all]]]]]]");
        d.askFault("often not [[[[[[all]]]]]]", 4, 15);
        d.askFault("often " + six + "1=(1)", 4, 32);
        d.askFault("often " + six + "(1)=1", 4, 30);
        d.askFault("often " + six + "heard 1=1", 4, 30);
        d.askGood("often " + six + "1=1 or (1)=1");
        d.askFault("often not not not not not 1=(1)+((1))", 4, 33);
    }

    private static void heardUntilItsPart() {
        Desk d = asking("IV: heard is open until its PART ends");
        String six = "heard heard heard heard heard heard ";
        d.askGood("total " + six + "1+" + six + "1*" + six + "1");
        d.askFault("total " + six + "(1)", 4, 42);
        d.askGood("total " + six + "1+(1)");
        d.askGood("total heard (((((1)))))");
        d.askFault("total heard ((((((1))))))", 4, 17);
        d.askGood("total heard 1*((((((1))))))");
        d.askGood("total heard min(1,heard 2)+((((((1))))))");
        d.askFault("total heard [1]", 1, 12);
        d.askFault("total heard not 1", 1, 12);
        d.askFault("total heard +1", 1, 12);
    }

    private static void factsWithoutSign() {
        Desk d = asking("IV: FACT: SUM SIGN SUM, SIGN < or > or =");
        d.askGood("often mood<cheer");
        d.askGood("often mood>cheer");
        d.askGood("often mood=cheer");
        for (String none : new String[] {"]", ")", "and 1=1", "or 1=1", "5", "all", ";", "!=1", "[all]", "not all"}) {
            d.askFault("often mood " + none, 1, 11);
            d.askFault("often [mood " + none, 1, 12);
        }
        d.askFault("often mood<=cheer", 1, 11);
        d.askFault("often mood><cheer", 1, 11);
        d.askFault("often <cheer", 1, 6);
        d.askFault("often mood<[all]", 1, 11);
        d.askFault("often mood<not 1", 1, 11);
        d.askFault("often (mood<1)", 1, 11);
        d.askGood("often [mood<1]");
    }

    private static void theLongestQuestion() {
        Desk d = new Desk("2, 31: a QUESTION of 1600 bytes");
        d.castle(WORLD);
        d.due("the longest sum", d.ask("most 1" + "+1".repeat(797)), 798);
        d.due("the longest test", d.ask("often 1=1" + " or 1=2".repeat(227)), 2);
        d.due("the longest of blanks", d.ask(" ".repeat(1590) + "often all "), 2);
    }

    private static void faultsLeaveNothing() {
        Desk d = new Desk("5: of the latest castle() or ask(): what was open in an earlier one is not");
        String six = "call 5;tower a mood 9 cheer 0;says ((((((7))))));";
        d.castle("call 5;says ((((((");
        d.due("fault(1)", d.x.fault(1), 18);
        d.due("castle()", d.castle(six), 3);
        d.due("fault(0)", d.x.fault(0), 0);
        d.castle("call 5;says (((((((");
        d.due("fault(0)", d.x.fault(0), 4);
        d.due("castle()", d.castle(six), 3);
        d.due("tone(0, 0)", d.x.tone(0, 0), 7);
        d.ask("often [[[[[[");
        d.due("fault(1)", d.x.fault(1), 12);
        d.due("ask()", d.ask("often [[[[[[all]]]]]]"), 1);
        d.ask("often not not not not not not not");
        d.due("fault(0)", d.x.fault(0), 4);
        d.due("ask()", d.ask("total ((((((5))))))"), 5);
        d.castle("call 5;says 1");
        d.due("castle()", d.castle("call5;"), -1);
        d.due("fault(1)", d.x.fault(1), 4);
        d.due("castle()", d.castle(six), 3);
    }
}
