import java.lang.reflect.Constructor;
import java.lang.reflect.Field;
import java.lang.reflect.Method;
import java.lang.reflect.Modifier;
import java.util.ArrayList;
import java.util.List;
import java.util.Set;
import java.util.TreeSet;

/** The public face: these members, and no others that are not private. */
public final class FaceTest {
    private static final String[] FACE = {
        "int appendText(int) ISE", "int truncateText(int) IAE", "int load()", "int errorCode()",
        "int errorPosition()", "int addNode(int) IAE ISE",
        "int addLink(int,int,int,int) IOBE IAE ISE",
        "boolean setUp(int,boolean) IOBE", "int set(int,int) IAE", "int count(int) IAE",
        "int node(int,int) IOBE IAE", "int label(int,int,int) IOBE IAE",
        "int link(int,int) IOBE IAE",
        "int draft(int) IOBE ISE", "int clearDraft()", "int draftBest(int,int,int) IOBE IAE",
        "int draftNode(int) IOBE", "int open(int,int) IAE", "int close(int) IOBE",
        "int move(int) IOBE", "int moveBest(int,int) IOBE", "int abort(int) IOBE",
        "int offer(int,int) IOBE IAE", "int run(int) IAE", "int circuit(int,int) IOBE IAE",
        "int way(int,boolean,int,int) IOBE IAE", "int packet(int,int) IOBE IAE",
        "double meanDelay(int) IOBE", "float usage()", "int canMove(int,int) IOBE",
        "int movedIn(int) IOBE", "int ahead(int,int) IAE", "int weakLink()", "void save(int) IAE",
        "void restore(int) IAE ISE",
    };

    public static void main(String[] args) throws Exception {
        Check check = new Check();
        Class<?> desk = CircuitDesk.class;
        check.dueTrue("the class is public and final",
                desk.getModifiers() == (Modifier.PUBLIC | Modifier.FINAL));
        Set<String> due = new TreeSet<>(List.of(FACE));
        Set<String> got = new TreeSet<>();
        Set<String> names = new TreeSet<>();
        for (Method m : desk.getDeclaredMethods()) {
            if (!Modifier.isPrivate(m.getModifiers())) {
                check.dueTrue(m + " is public alone", m.getModifiers() == Modifier.PUBLIC);
                got.add(written(m));
                names.add(m.getName());
            }
        }
        check.dueTrue("the methods are " + got + ", due are " + due, got.equals(due));
        check.due("number of methods", FACE.length, 35);
        for (Field f : desk.getDeclaredFields()) {
            check.dueTrue(f + " is private", f.getName().equals("NONE")
                    || Modifier.isPrivate(f.getModifiers()));
        }
        Field none = desk.getDeclaredField("NONE");
        check.due("modifiers of NONE", none.getModifiers(),
                Modifier.PUBLIC | Modifier.STATIC | Modifier.FINAL);
        check.due("NONE", CircuitDesk.NONE, -1);
        Constructor<?>[] made = desk.getDeclaredConstructors();
        check.dueTrue("one public constructor without parameters", made.length == 1
                && made[0].getModifiers() == Modifier.PUBLIC && made[0].getParameterCount() == 0);
        noPrivateNamesake(check, desk, names);
        newDesk(check);
        check.end("FaceTest");
    }

    private static String written(Method m) {
        List<String> types = new ArrayList<>();
        for (Class<?> type : m.getParameterTypes()) {
            types.add(type.getSimpleName());
        }
        StringBuilder line = new StringBuilder(m.getReturnType().getSimpleName() + " " + m.getName()
                + "(" + String.join(",", types) + ")");
        for (Class<?> thrown : m.getExceptionTypes()) {
            line.append(thrown == IndexOutOfBoundsException.class ? " IOBE"
                    : thrown == IllegalArgumentException.class ? " IAE"
                    : thrown == IllegalStateException.class ? " ISE" : " other");
        }
        return line.toString();
    }

    private static void noPrivateNamesake(Check check, Class<?> desk, Set<String> names) {
        for (Class<?> c : desk.getDeclaredClasses()) {
            check.dueTrue(c + " is static", Modifier.isStatic(c.getModifiers()));
            int opened = c.getModifiers() & (Modifier.PUBLIC | Modifier.PROTECTED);
            check.dueTrue(c + " is not public", opened == 0);
            for (Method m : c.getDeclaredMethods()) {
                check.dueTrue(m + " bears a name of the face", !names.contains(m.getName()));
            }
        }
        for (Method m : desk.getDeclaredMethods()) {
            check.dueTrue(m + " bears a name of the face", !Modifier.isPrivate(m.getModifiers())
                    || !names.contains(m.getName()));
        }
    }

    /** Promise 1. */
    private static void newDesk(Check check) {
        CircuitDesk desk = new CircuitDesk();
        check.due("BORROW at first", desk.count(0), 1);
        for (int what = 1; what <= 16; what++) {
            check.due("count(" + what + ") at first", desk.count(what), 0);
        }
        check.due("length of the text at first", desk.truncateText(0), 0);
        check.dueIllegalArgument("truncateText(1) at first", () -> desk.truncateText(1));
        check.due("errorCode at first", desk.errorCode(), 0);
        check.due("errorPosition at first", desk.errorPosition(), -1);
        check.due("draft at first", desk.clearDraft(), 0);
        check.dueIllegalState("restore(0) at first", () -> desk.restore(0));
        check.dueIllegalState("restore(1) at first", () -> desk.restore(1));
        check.dueD("usage at first", desk.usage(), 0);
        check.due("weakLink at first", desk.weakLink(), -1);
        CircuitDesk other = new CircuitDesk();
        desk.addNode(4);
        check.due("nodes of another desk", other.count(2), 0);
    }
}
