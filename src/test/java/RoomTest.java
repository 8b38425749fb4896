import java.io.IOException;
import java.lang.reflect.Array;
import java.lang.reflect.Field;
import java.lang.reflect.Modifier;
import java.nio.file.Files;
import java.nio.file.Path;
import java.util.ArrayDeque;
import java.util.Collections;
import java.util.Deque;
import java.util.IdentityHashMap;
import java.util.Set;
import java.util.regex.Matcher;
import java.util.regex.Pattern;

/**
 * All calls of a run live in one room: a desk makes its rows once, and no call makes more of them.
 * What is made is counted and read, not measured: a machine that makes something of its own
 * meanwhile does not change the answer. Argument: the root of the project.
 */
public final class RoomTest {
    /** A room is 600,000 objects and arrays, 7.3 million fields and elements, for 512 calls. */
    private static final int SOME_OBJECTS = 600_000 / 512;
    private static final int SOME_PARTS = 7_300_000 / 512;
    /** What makes objects without the word new. */
    private static final String[] MAKERS = {"\\.clone\\(", "\\bStringBuilder\\b", "\\bArrayList\\b",
        "\\bList\\b", "\\bInteger\\b", "copyOf", "\\.values\\(", "\\bsubstring\\b",
        "\\btoCharArray\\b", "\\] \\w+ = \\{", "->", "::"};
    private static final Check CHECK = new Check();

    /** The objects and arrays that are to be had from a desk, and what they are made of. */
    private static final class Room {
        final Set<Object> objects = Collections.newSetFromMap(new IdentityHashMap<>());
        private final Deque<Object> unread = new ArrayDeque<>();
        int parts = 0;

        Room(CircuitDesk desk) throws IllegalAccessException {
            take(desk);
            while (!unread.isEmpty()) {
                read(unread.remove());
            }
        }

        private void take(Object object) {
            if (object != null && objects.add(object)) {
                unread.add(object);
            }
        }

        private void read(Object object) throws IllegalAccessException {
            if (object.getClass().isArray()) {
                parts += Array.getLength(object);
                for (int i = 0; object instanceof Object[] row && i < row.length; i++) {
                    take(row[i]);
                }
                return;
            }
            for (Field field : object.getClass().getDeclaredFields()) {
                if (!Modifier.isStatic(field.getModifiers())) {
                    parts++;
                    field.setAccessible(true);
                    take(field.getType().isPrimitive() ? null : field.get(object));
                }
            }
        }
    }

    public static void main(String[] args) throws IOException, IllegalAccessException {
        Room room = new Room(new CircuitDesk());
        CHECK.dueTrue("a desk makes " + room.objects.size() + " objects",
                room.objects.size() > 100 && room.objects.size() < SOME_OBJECTS);
        CHECK.dueTrue("they have " + room.parts + " fields and elements",
                room.parts > 1000 && room.parts < SOME_PARTS);
        callsKeepNothing();
        Path root = Path.of(args.length > 0 ? args[0] : ".");
        callsMakeNothing(Files.readString(root.resolve("src/main/java/CircuitDesk.java")));
        CHECK.end("RoomTest");
    }

    /** After calls of each kind a desk is made of the very objects of which it was before. */
    private static void callsKeepNothing() throws IllegalAccessException {
        CircuitDesk desk = new CircuitDesk();
        Room before = new Room(desk);
        CHECK.due("load", Check.load(desk, Nets.triangle(4, 30, 1, 1, 9)
                + "circuit 2 1 0 1 2;circuit 1 0 0 1;circuit 1 2 1 2;"), 3);
        Nets.open(desk, 1, 0, 2);
        desk.draftBest(0, 2, 1);
        desk.weakLink();
        desk.canMove(0, 0);
        desk.moveBest(0, 0);
        desk.offer(1, 9);
        desk.run(5);
        desk.save(0);
        desk.ahead(200, 0);
        desk.run(200);
        CHECK.due("moved", desk.count(14), 1);
        CHECK.due("closed", desk.close(1), 0);
        desk.save(1);
        desk.restore(0);
        desk.setUp(0, false);
        CHECK.due("a wrong text", Check.load(desk, "node 1;node"), CircuitDesk.NONE);
        CHECK.due("a right one", Check.load(desk, "node 1;"), 0);
        Room after = new Room(desk);
        CHECK.due("objects", after.objects.size(), before.objects.size());
        CHECK.dueTrue("they are the same ones", after.objects.containsAll(before.objects));
    }

    /** Objects are made for fields, in constructors and behind throw, and nowhere else. */
    private static void callsMakeNothing(String program) {
        String code = program.replaceAll("(?s)/\\*.*?\\*/", "").replaceAll("//[^\n]*", "");
        CHECK.dueTrue("texts are joined", !holds(code, "\"\\s*\\+|\\+\\s*\""));
        code = code.replaceAll("\"[^\"\n]*\"", "\"\"");
        for (String maker : MAKERS) {
            CHECK.dueTrue("the program holds " + maker, !holds(code, maker));
        }
        Matcher made = Pattern.compile("(?<!\\bthrow )\\bnew\\b").matcher(code);
        int found = 0;
        while (made.find()) {
            String member = memberAround(code, made.start());
            CHECK.dueTrue("something is made in:" + member,
                    member.isEmpty() || member.matches("\\s*(public )?[A-Z]\\w*\\(.*"));
            found++;
        }
        CHECK.dueTrue("places where something is made: " + found, found > 10);
    }

    private static boolean holds(String code, String pattern) {
        return Pattern.compile(pattern).matcher(code).find();
    }

    /** The head of the method or constructor round a place; empty if it is in none. */
    private static String memberAround(String code, int place) {
        String head = "";
        int closed = 0;
        for (int i = place - 1; i >= 0; i--) {
            if (code.charAt(i) == '}') {
                closed++;
            } else if (code.charAt(i) == '{' && closed > 0) {
                closed--;
            } else if (code.charAt(i) == '{') {
                String opened = code.substring(code.lastIndexOf('\n', i) + 1, i);
                if (opened.contains(" class ")) {
                    return head;
                }
                head = opened;
            }
        }
        return head;
    }
}
