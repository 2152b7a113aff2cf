import java.util.Random;

/** Texts by chance (of fixed seeds), whole, spoilt or heaped up of words: their FAULTS held against a second reading. */
public final class TextModelTests {
    private static final int TEXTS = 60000;
    private static final String[] PIECES = {
        "call", "tower", "mood", "cheer", "yes", "says", "feels", "well", "fires", "cold", "heard", "round", "place", "sigh", "tone",
        "number", "glad", "or", "and", "not", "all", "min", "max", "first", "last", "often", "total", "most", "least", "a", "b", "abcdef",
        "abcdefg", "moo", "A", "{", "`", "0", "1", "8", "9", "10", "100", "101", "0009", "9999", "12345", "(", ")", "[", "]", "<", ">", "=",
        "+", "-", "*", "/", ",", ";", ";", ":", " ", " ", "\n", "\t", "\u00ff", "\u0000", "((((((", "not not not ", "heard heard ", "min(min("};
    private static final String[] NUMBERS = {"0", "9", "10", "8", "100", "101", "0001", "00001", "1000"};
    private static final String[] NESTS = {"(", "((((((", "(((((((", "min(1,", "((((min((", "heard ", "heard(heard(heard ", "min(max(min(((("};
    private static final Desk DESK = new Desk("texts");
    private static final int[] FOUND = new int[6];

    private final Random r;

    private TextModelTests(int seed) {
        r = new Random(seed);
    }

    public static void main(String[] args) {
        for (int seed = 1; seed <= TEXTS; seed++) {
            TextModelTests t = new TextModelTests(seed);
            if (seed % 2 == 0) {
                t.castle();
            } else {
                t.question();
            }
        }
        for (int kind = 0; kind < FOUND.length; kind++) {
            DESK.due("texts with fault " + kind + " are enough", FOUND[kind] > 400, true);
        }
        Desk.close("TextModelTests");
    }

    private void castle() {
        String text = spoil(r.nextInt(5) == 0 ? heap("call 5;") : Model.castle(r).text + more());
        TextModel due = TextModel.castle(text);
        DESK.x = new AllIsWell();
        DESK.due("castle() of '" + text + "'", DESK.castle(text), due.fault == 0 ? due.statements : AllIsWell.NONE);
        DESK.due("towers of '" + text + "'", DESK.x.has(0), due.fault == 0 ? due.towers.size() : 0);
        faults(text, due);
    }

    private void question() {
        String whole = r.nextBoolean() ? "often " + nested(Model.test(r, 6).text) : "total " + Model.sum(r, 2, 6, 8).text;
        String text = spoil(r.nextInt(5) == 0 ? heap("first ") : whole);
        TextModel due = TextModel.question(text);
        DESK.x = new AllIsWell();
        DESK.castle("call 5;");
        DESK.due("ask() of '" + text + "'", DESK.ask(text) == AllIsWell.NOTHING, due.fault != 0);
        faults(text, due);
    }

    private void faults(String text, TextModel due) {
        FOUND[due.fault]++;
        DESK.due("fault(0) of '" + text + "'", DESK.x.fault(0), due.fault);
        DESK.due("fault(1) of '" + text + "'", DESK.x.fault(1), due.place);
    }

    /** Statements that come again, often more than may be. */
    private String more() {
        StringBuilder s = new StringBuilder();
        switch (r.nextInt(8)) {
            case 0: return "says 1;feels 2;";
            case 1:
                for (int k = 0; k < 9; k++) {
                    s.append("tower ").append((char) ('p' + k)).append("q mood 1 cheer ").append(k).append(';');
                }
                return s.toString();
            case 2: return "well 3;".repeat(40 + r.nextInt(20));
            case 3: return "tower zz mood 1 cheer 1;yes zz;yes zz;";
            default: return "";
        }
    }

    /** A test in so many brackets and denials that it may be too deep. */
    private String nested(String test) {
        String whole = test;
        for (int k = r.nextInt(3) == 0 ? r.nextInt(8) : 0; k > 0; k--) {
            whole = r.nextBoolean() ? "not[" + whole + "]" : "[not " + whole + " and all]";
        }
        return whole;
    }

    private String heap(String start) {
        StringBuilder s = new StringBuilder(start);
        for (int k = r.nextInt(14); k > 0; k--) {
            s.append(PIECES[r.nextInt(PIECES.length)]).append(r.nextInt(4) == 0 ? "" : " ");
        }
        return s.toString();
    }

    private String spoil(String text) {
        StringBuilder s = new StringBuilder(text);
        for (int k = r.nextInt(3); k > 0; k--) {
            int at = r.nextInt(s.length() + 1);
            int number = digitFrom(s, at);
            switch (number < 0 ? r.nextInt(8) : r.nextInt(12)) {
                case 0: case 1: case 2: s.insert(at, PIECES[r.nextInt(PIECES.length)]); break;
                case 3: case 4: s.delete(at, Math.min(s.length(), at + 1 + r.nextInt(3))); break;
                case 5: case 6: s.replace(at, Math.min(s.length(), at + 1), PIECES[r.nextInt(PIECES.length)]); break;
                case 7: s.setLength(at); break;
                case 8: case 9: s.insert(number, NESTS[r.nextInt(NESTS.length)]); break;
                default: s.replace(number, number + 1, NUMBERS[r.nextInt(NUMBERS.length)]); break;
            }
        }
        s.setLength(Math.min(s.length(), 1600));
        return s.toString();
    }

    private static int digitFrom(StringBuilder s, int from) {
        for (int k = from; k < s.length(); k++) {
            if (Character.isDigit(s.charAt(k))) {
                return k;
            }
        }
        return -1;
    }
}
