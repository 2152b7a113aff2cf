import java.util.ArrayDeque;
import java.util.Deque;
import java.util.HashSet;
import java.util.Set;

/**
 * A second reading of the texts of Terms I and IV, for their FAULTS alone: what has to come lies on a pile, and each word,
 * number or sign is held against the uppermost.
 */
final class TextModel {
    private static final Set<String> OWN_WORDS = Set.of("call", "tower", "mood", "cheer", "yes", "says", "feels", "well", "fires",
        "cold", "heard", "round", "place", "sigh", "tone", "number", "glad", "or", "and", "not", "all", "min", "max");
    private static final Set<String> IN_SAYS = Set.of("heard", "mood", "cheer", "round", "place", "sigh");
    private static final Set<String> IN_FEELS = Set.of("heard", "mood", "cheer", "round", "place", "tone");
    private static final Set<String> IN_QUESTION = Set.of("number", "mood", "cheer", "round", "tone", "glad", "yes");

    int fault = 0;
    int place = -1;
    int statements = 0;
    final Set<String> towers = new HashSet<>();
    private final Set<String> sayYes = new HashSet<>();
    private final Set<String> told = new HashSet<>();
    private final Deque<String> due = new ArrayDeque<>();
    private final String text;
    private Set<String> values = Set.of();
    private int open = 0;
    /** What stands next: empty at the end, "?" for what is side by side with no blank between. */
    private String next = "";
    private int at = 0;

    private TextModel(String text, String whole) {
        this.text = text;
        await(whole);
        look(0, false);
        while (fault == 0 && !due.isEmpty()) {
            meet(due.pop());
        }
        if (fault == 0 && at < text.length()) {
            refuse(1, at);
        }
    }

    static TextModel castle(String text) {
        return new TextModel(text, "call 0..9 ; STATEMENTS");
    }

    static TextModel question(String text) {
        return new TextModel(text, "QUESTION");
    }

    private void await(String items) {
        String[] row = items.split(" ");
        for (int k = row.length - 1; k >= 0; k--) {
            due.push(row[k]);
        }
    }

    private void refuse(int kind, int where) {
        fault = kind;
        place = where;
    }

    private static boolean isWordy(char c) {
        return c >= 'a' && c <= 'z' || isDigit(c);
    }

    private static boolean isDigit(char c) {
        return c >= '0' && c <= '9';
    }

    private void look(int from, boolean wordy) {
        at = from;
        while (at < text.length() && (text.charAt(at) == ' ' || text.charAt(at) == '\n')) {
            at++;
        }
        if (at == text.length()) {
            next = "";
            return;
        }
        int to = at + 1;
        char c = text.charAt(at);
        while (isWordy(c) && to < text.length() && isWordy(text.charAt(to)) && isDigit(text.charAt(to)) == isDigit(c)) {
            to++;
        }
        next = wordy && at == from && isWordy(c) ? "?" : text.substring(at, to);
    }

    private void pass() {
        look(at + next.length(), isWordy(next.charAt(0)));
    }

    private boolean isNumber() {
        return !next.isEmpty() && isDigit(next.charAt(0));
    }

    private void meet(String item) {
        switch (item) {
            case "STATEMENTS": meetStatement(); break;
            case "QUESTION": meetQuestion(); break;
            case "NEW": meetName(true); break;
            case "OLD": meetName(false); break;
            case "SUM": await("PRODUCT MORE+-"); break;
            case "PRODUCT": await("PART MORE*/"); break;
            case "TEST": await("BOTH MOREor"); break;
            case "BOTH": await("FACT MOREand"); break;
            case "MORE+-": meetMore(next.equals("+") || next.equals("-"), "PRODUCT " + item); break;
            case "MORE*/": meetMore(next.equals("*") || next.equals("/"), "PART " + item); break;
            case "MOREor": meetMore(next.equals("or"), "BOTH " + item); break;
            case "MOREand": meetMore(next.equals("and"), "FACT " + item); break;
            case "PART": meetPart(); break;
            case "FACT": meetFact(); break;
            case "SIGN": meetAny("<", ">", "="); break;
            case "OPEN": meetOpen("(", ""); break;
            case "SHUT": open--; break;
            default: meetPlain(item); break;
        }
    }

    private void meetPlain(String item) {
        int dots = item.indexOf("..");
        if (dots > 0) {
            meetNumber(Integer.parseInt(item.substring(0, dots)), Integer.parseInt(item.substring(dots + 2)));
        } else {
            meetAny(item);
        }
    }

    private void meetAny(String... items) {
        if (Set.of(items).contains(next)) {
            pass();
        } else {
            refuse(1, at);
        }
    }

    private void meetMore(boolean comes, String items) {
        if (comes) {
            pass();
            await(items);
        }
    }

    private void meetNumber(int least, int most) {
        if (!isNumber()) {
            refuse(1, at);
        } else if (next.length() > 4) {
            refuse(1, at + 4);
        } else if (Integer.parseInt(next) < least || Integer.parseInt(next) > most) {
            refuse(2, at);
        } else {
            pass();
        }
    }

    private void meetName(boolean given) {
        if (next.isEmpty() || !isWordy(next.charAt(0)) || isNumber() || OWN_WORDS.contains(next)) {
            refuse(1, at);
        } else if (next.length() > 6) {
            refuse(1, at + 6);
        } else if (given ? !towers.add(next) : !towers.contains(next) || !sayYes.add(next)) {
            refuse(3, at);
        } else {
            pass();
        }
    }

    private void meetStatement() {
        statements++;
        if (next.isEmpty()) {
            return;
        }
        boolean second = (next.equals("says") || next.equals("feels")) && !told.add(next);
        if (statements == 60 || second || next.equals("tower") && towers.size() == 8) {
            refuse(5, at);
            return;
        }
        values = next.equals("says") ? IN_SAYS : IN_FEELS;
        switch (next) {
            case "tower": await("tower NEW mood 0..9 cheer 0..9 ; STATEMENTS"); break;
            case "yes": await("yes OLD ; STATEMENTS"); break;
            case "says": await("says SUM ; STATEMENTS"); break;
            case "feels": await("feels SUM ; STATEMENTS"); break;
            case "well": await("well 1..9 ; STATEMENTS"); break;
            case "fires": await("fires 1..8 ; STATEMENTS"); break;
            case "cold": await("cold 0..100 ; STATEMENTS"); break;
            default: refuse(1, at); break;
        }
    }

    private void meetQuestion() {
        values = IN_QUESTION;
        switch (next) {
            case "first": case "last": case "often": await(next + " TEST"); break;
            case "total": case "most": case "least": await(next + " SUM"); break;
            default: refuse(1, at); break;
        }
    }

    private void meetPart() {
        if (isNumber()) {
            meetNumber(0, 9999);
        } else if (next.equals("(")) {
            meetOpen("(", "SUM ) SHUT");
        } else if (next.equals("min") || next.equals("max")) {
            await(next + " OPEN SUM , SUM ) SHUT");
        } else if (next.equals("heard") && values == IN_QUESTION) {
            meetOpen("heard", "PART SHUT");
        } else if (values.contains(next)) {
            pass();
        } else {
            refuse(1, at);
        }
    }

    private void meetFact() {
        switch (next) {
            case "not": meetOpen("not", "FACT SHUT"); break;
            case "[": meetOpen("[", "TEST ] SHUT"); break;
            case "all": pass(); break;
            default: await("SUM SIGN SUM"); break;
        }
    }

    private void meetOpen(String sign, String behind) {
        if (!next.equals(sign)) {
            refuse(1, at);
        } else if (open == 6) {
            refuse(4, at);
        } else {
            open++;
            pass();
            if (!behind.isEmpty()) {
                await(behind);
            }
        }
    }
}
