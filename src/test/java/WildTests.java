import java.nio.charset.StandardCharsets;
import java.util.Random;

/** Calls of any kind with any arguments, on texts that are spoilt by chance: none may throw. */
public final class WildTests {
    private static final int OBJECTS = 400;
    private static final int CALLS = 512;
    private static final int[] EDGES = {
        -1, 0, 1, 2, 7, 8, 9, 10, 30, 31, 60, 61, 100, 101, 999, 1600, Integer.MIN_VALUE, Integer.MAX_VALUE};
    private static final String[] PIECES = {
        "call 5;", "tower ", "mood ", "cheer ", "yes ", "says ", "feels ", "well ", "fires ", "cold ", "heard ", "round", "place",
        "sigh", "tone", "number", "glad", " or ", " and ", "not ", "all", "min(", "max(", "(", ")", ",", ";", "+", "-", "*", "/",
        "<", ">", "=", "[", "]", "5", "12", " ", "\n", "a", "abcdefg", "12345", "first ", "most ", "\u00e9", "\u0000"};

    private final Random r;
    private final Desk d;

    private WildTests(int seed) {
        r = new Random(seed);
        d = new Desk("wild " + seed);
    }

    public static void main(String[] args) {
        for (int seed = 1; seed <= OBJECTS; seed++) {
            WildTests w = new WildTests(seed);
            try {
                w.run();
            } catch (RuntimeException | Error e) {
                e.printStackTrace(System.out);
                w.d.due("a call that threw", 1, 0);
            }
        }
        Desk.close("WildTests");
    }

    private void run() {
        d.castle(Model.castle(r).text);
        for (int k = 0; k < CALLS; k++) {
            call(r.nextInt(36));
        }
    }

    private int some() {
        return r.nextInt(3) == 0 ? EDGES[r.nextInt(EDGES.length)] : r.nextInt(10);
    }

    private void call(int which) {
        AllIsWell x = d.x;
        switch (which) {
            case 0: x.feed(r.nextInt(), some(), r.nextInt(), some(), r.nextInt()); break;
            case 1: x.end(some()); break;
            case 2: spoiltCastle(); break;
            case 3: x.fault(some()); break;
            case 4: x.has(some()); break;
            case 5: x.letter(some(), some()); break;
            case 6: x.tower(some(), some()); break;
            case 7: x.kept(some(), some()); break;
            case 8: x.tone(some(), some()); break;
            case 9: x.mood(some(), some()); break;
            case 10: x.doubts(some()); break;
            case 11: x.fire(); break;
            case 12: x.settles(some()); break;
            case 13: x.cheered(some()); break;
            case 14: x.sighs(some()); break;
            case 15: x.better(some(), some()); break;
            case 16: x.placed(some(), some()); break;
            case 17: x.game(some()); break;
            case 18: x.rule(some(), some()); break;
            case 19: d.see(r.nextInt(31), r.nextInt(9), r.nextInt(11)); break;
            case 20: x.moods(some()); break;
            case 21: x.tells(some(), some()); break;
            case 22: x.cheer(some(), some()); break;
            case 23: x.yes(some(), some()); break;
            case 24: x.change(some(), some()); break;
            case 25: x.rounds(some()); break;
            case 26: x.chance(some()); break;
            case 27: x.undo(); break;
            case 28: x.seed(some()); break;
            case 29: spoiltQuestion(); break;
            case 30: x.image(); break;
            case 31: x.octet(some()); break;
            case 32: spoiltImage(); break;
            case 33: x.on(); break;
            case 34: x.ask(); break;
            default: x.status(some()); break;
        }
    }

    private String spoil(String text) {
        StringBuilder s = new StringBuilder(text);
        for (int k = r.nextInt(3); k > 0; k--) {
            int at = r.nextInt(s.length() + 1);
            switch (r.nextInt(3)) {
                case 0: s.insert(at, PIECES[r.nextInt(PIECES.length)]); break;
                case 1: s.delete(at, Math.min(s.length(), at + r.nextInt(6))); break;
                default: s.setLength(r.nextInt(4) == 0 ? at : s.length()); break;
            }
        }
        return s.toString();
    }

    private void spoiltCastle() {
        String text = spoil(Model.castle(r).text);
        d.x.end(0);
        if (d.castle(text) == AllIsWell.NONE) {
            int place = d.x.fault(1);
            d.due("place " + place + " of " + text, place >= 0 && place <= text.length(), true);
            prefixGoesOn(text, place);
        } else {
            d.due("fault(0) of " + text, d.x.fault(0), 0);
        }
    }

    /** What stands ahead of a FAULT has none, but that it may end too soon. */
    private void prefixGoesOn(String text, int place) {
        byte[] raw = text.getBytes(StandardCharsets.ISO_8859_1);
        if (place > 0 && place < raw.length && Character.isLetterOrDigit(raw[place - 1]) && Character.isLetterOrDigit(raw[place])) {
            return;
        }
        AllIsWell kept = d.x;
        d.x = new AllIsWell();
        if (d.castle(text.substring(0, place)) == AllIsWell.NONE) {
            d.due("fault(0) of what is ahead in " + text, d.x.fault(0), 1);
            d.due("fault(1) of what is ahead in " + text, d.x.fault(1), place);
        }
        d.x = kept;
    }

    private void spoiltQuestion() {
        String text = spoil(r.nextBoolean() ? "often " + Model.test(r, 6).text : "total " + Model.sum(r, 2, 6, 8).text);
        d.x.end(0);
        long answer = d.ask(text);
        d.due("fault(0) of " + text, d.x.fault(0) != 0, answer == AllIsWell.NOTHING);
    }

    private void spoiltImage() {
        d.x.end(0);
        int[] image = d.image();
        if (r.nextBoolean()) {
            image[r.nextInt(image.length)] = r.nextInt(256);
        } else if (r.nextInt(4) == 0) {
            image[0] = 3;
            image[1] = 220 + r.nextInt(14);
            image = Desk.checked(java.util.Arrays.copyOf(image, image.length - 1));
        }
        d.on(image);
    }
}
