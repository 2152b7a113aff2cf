import java.lang.management.ManagementFactory;
import java.lang.reflect.Field;
import java.lang.reflect.Method;
import java.lang.reflect.Modifier;
import java.util.Set;
import java.util.TreeSet;

/** The rules of LANGUAGE.md that can be seen in the class itself: its face, its fields, the room that its calls take. */
public final class LanguageTests {
    /** The document's face, method by method. */
    private static final Set<String> FACE = Set.of(
        "int feed(int,int,int,int,int)", "boolean end(int)", "int castle()", "int fault(int)", "int has(int)",
        "int letter(int,int)", "int tower(int,int)", "int kept(int,int)", "int tone(int,int)", "int mood(int,int)",
        "int doubts(int)", "int fire()", "int settles(int)", "int cheered(int)", "int sighs(int)", "int better(int,int)",
        "int placed(int,int)", "int game(int)", "int rule(int,int)", "int see()", "int moods(int)", "int tells(int,int)",
        "boolean cheer(int,int)", "boolean yes(int,int)", "boolean change(int,int)", "int rounds(int)", "int chance(int)",
        "boolean undo()", "boolean seed(int)", "long ask()", "int image()", "int octet(int)", "boolean on()", "int status(int)");
    /** "Some twelve" classes, "some twenty" fields. */
    private static final int MOST_CLASSES = 14;
    private static final int MOST_FIELDS = 22;
    /** 7.3 million fields and elements, by the four bytes of an int. */
    private static final long ROOM = 7300000L * 4;
    private static final Desk DESK = new Desk("class");

    public static void main(String[] args) {
        face();
        classes();
        room();
        Desk.close("LanguageTests");
    }

    private static void face() {
        Set<String> names = new TreeSet<>();
        for (String row : FACE) {
            names.add(row.substring(row.indexOf(' ') + 1, row.indexOf('(')));
        }
        Set<String> open = new TreeSet<>();
        for (Method m : AllIsWell.class.getDeclaredMethods()) {
            if (Modifier.isPublic(m.getModifiers())) {
                open.add(m.toString().replace("public ", "").replace("AllIsWell.", ""));
            } else if (!m.isSynthetic()) {
                DESK.due("rule 1: " + m + " is private", Modifier.isPrivate(m.getModifiers()), true);
                DESK.due("rule 1: " + m + " bears a public one's name", names.contains(m.getName()), false);
            }
        }
        DESK.due("rule 1: the face is " + open, open.equals(new TreeSet<>(FACE)), true);
        DESK.due("rule 1: public and final", AllIsWell.class.getModifiers(), Modifier.PUBLIC | Modifier.FINAL);
        DESK.due("rule 1: constructors", AllIsWell.class.getDeclaredConstructors().length, 1);
        DESK.due("rule 1: public constructors", AllIsWell.class.getConstructors().length, 1);
        DESK.due("rule 1: public fields", AllIsWell.class.getFields().length, 2);
        DESK.due("NONE", AllIsWell.NONE, -1);
        DESK.due("NOTHING", AllIsWell.NOTHING, -1000000000000000L);
    }

    private static void classes() {
        Class<?>[] inside = AllIsWell.class.getDeclaredClasses();
        DESK.due("rule 11: classes", inside.length < MOST_CLASSES, true);
        fields(AllIsWell.class);
        for (Field f : AllIsWell.class.getDeclaredFields()) {
            boolean constant = Modifier.isPublic(f.getModifiers());
            DESK.due("rule 1: " + f + " is private", constant || Modifier.isPrivate(f.getModifiers()), true);
        }
        for (Class<?> c : inside) {
            int shown = c.getModifiers() & (Modifier.PUBLIC | Modifier.PROTECTED);
            DESK.due("rule 1: " + c + " is hidden", shown, 0);
            DESK.due("rule 2: " + c + " is static", Modifier.isStatic(c.getModifiers()), true);
            fields(c);
        }
    }

    private static void fields(Class<?> c) {
        int own = 0;
        for (Field f : c.getDeclaredFields()) {
            if (Modifier.isStatic(f.getModifiers())) {
                DESK.due("rule 5: " + f + " is final", Modifier.isFinal(f.getModifiers()), true);
            } else {
                own++;
            }
        }
        DESK.due("rule 11: fields of " + c + ": " + own, own <= MOST_FIELDS, true);
    }

    /** The longest text and the dearest calls, 512 of them: all that they make has room. */
    private static void room() {
        var threads = (com.sun.management.ThreadMXBean) ManagementFactory.getThreadMXBean();
        long me = Thread.currentThread().getId();
        long before = threads.getThreadAllocatedBytes(me);
        dearRun();
        long made = threads.getThreadAllocatedBytes(me) - before;
        DESK.due("rule 12: bytes made in a run: " + made, made < ROOM, true);
    }

    private static void dearRun() {
        StringBuilder text = new StringBuilder("call 5;");
        for (int k = 0; k < 8; k++) {
            text.append("tower ").append((char) ('a' + k)).append(" mood 5 cheer 1;");
        }
        text.append("fires 8;says min(heard,mood+cheer)-sigh");
        while (text.length() < 1597) {
            text.append("-0");
        }
        Desk d = new Desk("a dear run");
        d.tell(text + ";");
        d.see(0, 0, 5);
        for (int k = 0; k < 40; k++) {
            d.x.cheered(30);
            d.x.sighs(30);
            d.x.better(30, 0);
            d.x.placed(30, 0);
            d.x.game(0);
            d.x.tells(0, 2);
            d.x.chance(1);
            d.x.image();
            d.ask("total heard 30");
        }
    }
}
