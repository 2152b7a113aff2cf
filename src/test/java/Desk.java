import java.nio.charset.StandardCharsets;

/** An object under test, with texts put onto its tape, and a count of answers that are not as due. */
final class Desk {
    static int wrong = 0;
    static int asked = 0;
    AllIsWell x = new AllIsWell();
    /** The castle of which each question is asked on an object of its own; empty: on the one at hand. */
    String world = "";
    private final String name;

    Desk(String name) {
        this.name = name;
    }

    void due(String call, long got, long want) {
        asked++;
        if (got != want) {
            wrong++;
            System.out.println(name + ": " + call + " answered " + got + ", due is " + want);
        }
    }

    void due(String call, boolean got, boolean want) {
        due(call, got ? 1 : 0, want ? 1 : 0);
    }

    /** Puts bytes onto the tape, which must be empty ahead of it. */
    void put(int... bytes) {
        for (int k = 0; k < bytes.length; k += 20) {
            int[] five = new int[5];
            for (int i = 0; i < 20; i++) {
                int b = k + i < bytes.length ? bytes[k + i] : 32;
                five[i / 4] = five[i / 4] << 8 | b & 255;
            }
            x.feed(five[0], five[1], five[2], five[3], five[4]);
        }
        x.end(bytes.length);
    }

    void put(String text) {
        byte[] raw = text.getBytes(StandardCharsets.ISO_8859_1);
        int[] bytes = new int[raw.length];
        for (int k = 0; k < raw.length; k++) {
            bytes[k] = raw[k] & 255;
        }
        put(bytes);
    }

    int castle(String text) {
        put(text);
        return x.castle();
    }

    long ask(String text) {
        put(text);
        return x.ask();
    }

    int see(int... bytes) {
        put(bytes);
        return x.see();
    }

    boolean on(int... bytes) {
        put(bytes);
        return x.on();
    }

    /** A castle that must be one. */
    void tell(String text) {
        due("castle() of '" + text + "' is one", castle(text) != -1, true);
    }

    void answer(String question, long want) {
        due("ask() of '" + question + "'", ask(question), want);
    }

    /** All is as it stands, but at another ROUND. */
    void at(int round) {
        int[] image = image();
        int[] other = java.util.Arrays.copyOf(image, image.length - 1);
        other[0] = round / 256;
        other[1] = round % 256;
        due("on() at round " + round, on(checked(other)), true);
    }

    /** The image of now, as its bytes. */
    int[] image() {
        int[] bytes = new int[x.image()];
        for (int k = 0; k < bytes.length; k++) {
            bytes[k] = x.octet(k);
        }
        return bytes;
    }

    /** An image with its check. */
    static int[] checked(int... ahead) {
        int[] bytes = java.util.Arrays.copyOf(ahead, ahead.length + 1);
        int c = 157;
        for (int b : ahead) {
            c = (3 * c + b) % 251;
        }
        bytes[ahead.length] = c;
        return bytes;
    }

    /** Reads a castle's text on an object of its own; fault 0: it has none. */
    void fault(String text, int fault, int place) {
        x = new AllIsWell();
        int got = castle(text);
        due("castle() of '" + text + "' is one", got != -1, fault == 0);
        due("fault(0) of '" + text + "'", x.fault(0), fault);
        due("fault(1) of '" + text + "'", x.fault(1), place);
    }

    void good(String text) {
        fault(text, 0, -1);
    }

    void askFault(String text, int fault, int place) {
        if (!world.isEmpty()) {
            x = new AllIsWell();
            castle(world);
        }
        long got = ask(text);
        due("ask() of '" + text + "' has an answer", got != AllIsWell.NOTHING, fault == 0);
        due("fault(0) of '" + text + "'", x.fault(0), fault);
        due("fault(1) of '" + text + "'", x.fault(1), place);
    }

    void askGood(String text) {
        askFault(text, 0, -1);
    }

    static void close(String tests) {
        System.out.println(tests + ": " + asked + " answers, " + wrong + " not as due");
        if (wrong != 0) {
            System.exit(1);
        }
    }
}
