import java.lang.reflect.InvocationTargetException;
import java.lang.reflect.Method;
import java.util.ArrayList;
import java.util.Collections;
import java.util.HashMap;
import java.util.List;
import java.util.Map;
import java.util.Random;

/**
 * Runs of drawn calls, with fixed seeds, on CircuitDesk and on ReferenceDesk side by side: each
 * answer, each exception and every now and then all that can be seen must be the same.
 * Arguments, all optional: the root of the project, the first seed, the number of runs, the number
 * of setup texts, and any word to be told how often each answer was seen.
 */
public final class RandomRunsTest {
    private static final int CALLS = 500;
    private static final int ENOUGH = 150;
    private static final Map<String, Method> DESK = methods(CircuitDesk.class);
    private static final Map<String, Method> REFERENCE = methods(ReferenceDesk.class);

    private final Random random;
    private final CircuitDesk desk = new CircuitDesk();
    private final ReferenceDesk reference = new ReferenceDesk();
    private final List<String> calls = new ArrayList<>();
    private final Check check;
    private final Map<String, Integer> seen;
    private boolean isWrong = false;
    /** Whether the links are slow and wide, so that there are many packets. */
    private final boolean isBusy;

    private RandomRunsTest(long seed, Check check, Map<String, Integer> seen) {
        random = new Random(seed);
        isBusy = seed % 8 == 0;
        this.check = check;
        this.seen = seen;
    }

    public static void main(String[] args) {
        int first = args.length > 1 ? Integer.parseInt(args[1]) : 1;
        int many = args.length > 2 ? Integer.parseInt(args[2]) : ENOUGH;
        int texts = args.length > 3 ? Integer.parseInt(args[3]) : 3000;
        Check check = new Check();
        Map<String, Integer> seen = new java.util.TreeMap<>();
        for (int seed = first; seed < first + many && check.wrongOnes() < 3; seed++) {
            RandomRunsTest run = new RandomRunsTest(seed, check, seen);
            run.play();
            check.dueTrue("seed " + seed + " is wrong", !run.isWrong);
        }
        RandomRunsTest reader = new RandomRunsTest(-first, check, seen);
        reader.readTexts(texts);
        check.dueTrue("the texts of seed " + first + " are wrong", !reader.isWrong);
        demandThatAllWasSeen(check, seen, many);
        if (args.length > 4) {
            System.out.println(seen);
        }
        check.end("RandomRunsTest");
    }

    /** A run that never reaches a reason or an error code would test nothing of it. */
    private static void demandThatAllWasSeen(Check check, Map<String, Integer> seen, int many) {
        if (many < ENOUGH) {
            return;
        }
        String[] due = {"open 0", "open 1", "open 3", "open 5", "open 6", "close 0", "close 2",
            "close 8", "move 0", "move 2", "move 3", "move 4", "move 5", "move 6", "moveBest 0",
            "moveBest 2", "moveBest 3", "moveBest 4", "moveBest 6", "abort 0", "abort 7",
            "canMove 0", "canMove 2", "canMove 3", "canMove 4", "canMove 6", "load ok", "code 1",
            "code 2", "code 3", "code 4", "code 5", "late", "lost", "dropped", "60 packets",
            "lent 2", "phase 1", "phase 2", "phase 3", "held", "weakLink -1", "weakLink 0"};
        for (String name : due) {
            check.dueTrue("no run has seen: " + name, seen.containsKey(name));
        }
    }

    private static Map<String, Method> methods(Class<?> of) {
        Map<String, Method> methods = new HashMap<>();
        for (Method m : of.getDeclaredMethods()) {
            methods.put(m.getName() + m.getParameterCount(), m);
        }
        return methods;
    }

    private static Object answer(Map<String, Method> methods, Object on, String name,
            Object[] args) {
        try {
            Object got = methods.get(name + args.length).invoke(on, args);
            return got == null ? "done" : got;
        } catch (InvocationTargetException e) {
            return "throws " + e.getCause().getClass().getSimpleName();
        } catch (IllegalAccessException e) {
            throw new UnsupportedOperationException(e);
        }
    }

    private Object call(String name, Object... args) {
        calls.add(name + java.util.Arrays.toString(args));
        Object got = answer(DESK, desk, name, args);
        Object want = answer(REFERENCE, reference, name, args);
        if (!got.equals(want)) {
            fault(name + java.util.Arrays.toString(args), got, want);
        }
        seen.merge(name + " " + got, 1, Integer::sum);
        return got;
    }

    private void fault(String call, Object got, Object want) {
        if (!isWrong) {
            int from = Math.max(0, calls.size() - 30);
            check.fault("after " + calls.subList(from, calls.size()) + "\n  " + call
                    + " answered " + got + ", due is " + want);
        }
        isWrong = true;
    }

    /** Asks without noting the call, so that the view does not hide the run. */
    private void same(String name, Object... args) {
        Object got = answer(DESK, desk, name, args);
        Object want = answer(REFERENCE, reference, name, args);
        if (!got.equals(want)) {
            fault(name + java.util.Arrays.toString(args), got, want);
        }
    }

    private void play() {
        build();
        for (int i = 0; i < CALLS && !isWrong; i++) {
            step();
            if (i % 45 == 0) {
                view();
            }
            noteSeen();
        }
        view();
    }

    private void readTexts(int texts) {
        for (int i = 0; i < texts && !isWrong; i++) {
            calls.clear();
            loadText();
            if (i % 20 == 0) {
                view();
            }
        }
    }

    private void noteSeen() {
        ReferenceDesk.All a = reference.a;
        note("late", a.late > 0);
        note("lost", a.lost > 0);
        note("dropped", a.dropped > 0);
        note("60 packets", a.packs.size() == 60);
        note("lent 2", reference.count(12) >= 2);
        for (ReferenceDesk.Circ c : a.circuits) {
            note("phase " + c.phase, true);
            note("held", c.held > 0);
        }
    }

    private void note(String name, boolean is) {
        if (is) {
            seen.merge(name, 1, Integer::sum);
        }
    }

    private int below(int bound) {
        return random.nextInt(Math.max(1, bound));
    }

    private int nodes() {
        return reference.a.spaces.size();
    }

    /** Mostly a number below the bound, sometimes one outside. */
    private int index(int bound) {
        if (below(25) == 0) {
            return outside(0, bound - 1);
        }
        return below(bound);
    }

    private int ranged(int least, int most) {
        if (below(25) == 0) {
            return outside(least, most);
        }
        return least + below(most - least + 1);
    }

    private int outside(int least, int most) {
        switch (below(6)) {
            case 0: return Integer.MIN_VALUE;
            case 1: return Integer.MAX_VALUE;
            case 2: case 3: return least - 1;
            default: return most + 1;
        }
    }

    private void build() {
        if (!isBusy && below(2) == 0) {
            loadText();
            return;
        }
        int nodes = 3 + below(8);
        int widest = isBusy || below(4) == 0 ? 12 : 1 + below(3);
        for (int i = 0; i < nodes; i++) {
            call("addNode", 1 + below(widest));
        }
        int slowest = isBusy || below(3) == 0 ? 9 : 3;
        int widestLink = isBusy || below(2) == 0 ? 99 : 25;
        int tries = nodes + below(16);
        for (int i = 0; i < tries; i++) {
            call("addLink", below(nodes), below(nodes), 5 + below(widestLink - 4),
                    1 + below(slowest));
        }
    }

    private void step() {
        int circuits = reference.a.circuits.size();
        int links = reference.a.lines.size();
        int kind = below(100);
        if (kind < 14) {
            if (!pathDraft(below(nodes()), below(nodes()))) {
                walk();
            }
            call("open", ranged(1, below(3) == 0 ? 20 : 3), isBusy ? 1 : ranged(0, 9));
        } else if (kind < 20) {
            call("draftBest", index(nodes()), index(nodes()), ranged(1, 20));
            if (below(2) == 0) {
                call("open", 1 + below(5), below(3));
            }
        } else if (kind < 30) {
            moveSomewhere(index(circuits));
        } else if (kind < 38) {
            call("moveBest", index(circuits), below(links + 1) - 1);
        } else if (kind < 42) {
            call("abort", index(circuits));
        } else if (kind < 47) {
            call("offer", index(circuits), ranged(1, 9));
        } else if (kind < 70) {
            call("run", below(10) == 0 ? ranged(1, 200) : 1 + below(4));
        } else {
            rareStep(circuits, links);
        }
    }

    private void rareStep(int circuits, int links) {
        switch (below(16)) {
            case 0: call("close", index(circuits)); break;
            case 1: if (!isBusy) call("setUp", index(links), false); break;
            case 2: call("setUp", index(links), true); break;
            case 3: call("set", ranged(0, 1), ranged(0, 1)); break;
            case 4: call("set", 0, ranged(0, 4)); break;
            case 5: call("ahead", ranged(1, below(2) == 0 ? 200 : 20), ranged(0, 3)); break;
            case 6: call("weakLink"); break;
            case 7: call("save", ranged(0, 1)); break;
            case 8: if (below(3) == 0) call("restore", ranged(0, 1)); break;
            case 9: call("movedIn", index(circuits)); break;
            case 10: call("canMove", index(circuits), ranged(-1, links)); break;
            case 11: call("moveBest", index(circuits), ranged(-1, links)); break;
            case 12: if (below(6) == 0) loadText(); break;
            case 13: call("draft", index(nodes())); break;
            case 14: call("addNode", ranged(1, 12)); break;
            default:
                call("addLink", index(nodes()), index(nodes()), ranged(1, 99), ranged(1, 9));
                break;
        }
    }

    private void walk() {
        call("clearDraft");
        int steps = below(7);
        for (int i = 0; i < steps; i++) {
            call("draft", index(nodes()));
        }
    }

    private void moveSomewhere(int circuit) {
        if (circuit >= 0 && circuit < reference.a.circuits.size() && below(8) != 0) {
            List<ReferenceDesk.Hop> way = reference.a.circuits.get(circuit).way;
            pathDraft(way.get(0).node, way.get(way.size() - 1).node);
        }
        call("move", circuit);
    }

    /** Drafts a drawn way between two nodes; answers whether one was found. */
    private boolean pathDraft(int from, int to) {
        if (from == to || nodes() < 2) {
            return false;
        }
        List<Integer> path = new ArrayList<>();
        path.add(from);
        if (!extend(path, to)) {
            return false;
        }
        call("clearDraft");
        for (int node : path) {
            call("draft", node);
        }
        return true;
    }

    private boolean extend(List<Integer> path, int to) {
        int last = path.get(path.size() - 1);
        if (last == to) {
            return true;
        }
        if (path.size() == 6) {
            return false;
        }
        List<Integer> next = new ArrayList<>();
        for (ReferenceDesk.Line l : reference.a.lines) {
            if (l.one == last || l.other == last) {
                next.add(l.one == last ? l.other : l.one);
            }
        }
        next.removeAll(path);
        Collections.shuffle(next, random);
        for (int node : next) {
            path.add(node);
            if (extend(path, to)) {
                return true;
            }
            path.remove(path.size() - 1);
        }
        return false;
    }

    // ---- setup texts

    private void loadText() {
        String text = setupText();
        if (below(3) == 0) {
            text = spoilt(text);
        }
        put(text);
        Object answer = call("load");
        note("load ok", !answer.equals(-1));
        Object code = call("errorCode");
        note("code " + code, true);
        call("errorPosition");
    }

    private void put(String text) {
        String read = text.length() > 796 ? text.substring(0, 796) : text;
        for (int i = 0; i < read.length(); i += 4) {
            int four = 0;
            for (int j = i; j < i + 4; j++) {
                four = four << 8 | (j < read.length() ? read.charAt(j) & 255 : below(256));
            }
            call("appendText", four);
        }
        call("truncateText", read.length());
        if (below(20) == 0) {
            call("truncateText", read.length() + 1);
        }
    }

    private String setupText() {
        StringBuilder text = new StringBuilder();
        int nodes = below(12) == 0 ? 11 : 2 + below(9);
        int widest = below(4) == 0 ? 12 : 1 + below(3);
        for (int i = 0; i < nodes; i++) {
            statement(text, "node", 1 + below(widest));
        }
        if (below(2) == 0) {
            statement(text, "set", 0, below(5));
        }
        int[][] links = drawnLinks(nodes);
        for (int[] l : links) {
            statement(text, "link", l[0], l[1], 9 + below(40), 1 + below(below(3) == 0 ? 9 : 3));
        }
        if (below(3) == 0) {
            statement(text, "set", 1, below(2));
        }
        int circuits = below(10);
        for (int i = 0; i < circuits; i++) {
            text.append("circuit ").append(1 + below(below(3) == 0 ? 20 : 4)).append(' ')
                    .append(below(10));
            for (int node : drawnWalk(nodes, links)) {
                text.append(' ').append(node);
            }
            text.append(";");
        }
        return text.toString();
    }

    private void statement(StringBuilder text, String word, int... numbers) {
        text.append(word).append(below(2) == 0 ? " " : "");
        for (int number : numbers) {
            text.append(below(9) == 0 ? "00" : "").append(number).append(' ');
        }
        text.setLength(text.length() - below(2));
        text.append(below(20) == 0 ? ";\n " : ";");
    }

    private int[][] drawnLinks(int nodes) {
        List<int[]> links = new ArrayList<>();
        int many = below(12) == 0 ? 17 : nodes - 1 + below(6);
        for (int tries = 0; tries < 200 && links.size() < many; tries++) {
            int one = below(nodes);
            int other = links.size() < nodes - 1 ? links.size() + 1 : below(nodes);
            boolean isThere = one == other;
            for (int[] l : links) {
                isThere |= l[0] == one && l[1] == other || l[0] == other && l[1] == one;
            }
            if (!isThere || below(150) == 0) {
                links.add(new int[] {one, other});
            }
        }
        return links.toArray(new int[0][]);
    }

    private List<Integer> drawnWalk(int nodes, int[][] links) {
        List<Integer> walk = new ArrayList<>();
        walk.add(below(nodes));
        int steps = below(8) == 0 ? 6 : 1 + below(4);
        for (int tries = 0; tries < 80 && walk.size() <= steps && links.length > 0; tries++) {
            int[] l = links[below(links.length)];
            int last = walk.get(walk.size() - 1);
            int next = l[0] == last ? l[1] : l[1] == last ? l[0] : -1;
            if (next >= 0 && (!walk.contains(next) || below(40) == 0)) {
                walk.add(next);
            }
        }
        return walk;
    }

    private String spoilt(String text) {
        StringBuilder spoilt = new StringBuilder(text);
        String signs = ";;  0123456789az\n\t\rN\u00e9-";
        int many = 1 + below(2);
        for (int i = 0; i < many && spoilt.length() > 0; i++) {
            int at = below(spoilt.length());
            switch (below(5)) {
                case 0: spoilt.deleteCharAt(at); break;
                case 1: spoilt.setLength(at); break;
                case 2: spoilt.setCharAt(at, signs.charAt(below(signs.length()))); break;
                case 3: spoilt.insert(at, signs.charAt(below(signs.length()))); break;
                default: spoilt.insert(at, "123456789012345678901234567890"); break;
            }
        }
        return spoilt.toString();
    }

    // ---- all that can be seen

    private void view() {
        ReferenceDesk.All a = reference.a;
        for (int what = -1; what <= 17; what++) {
            same("count", what);
        }
        for (int n = -1; n <= a.spaces.size(); n++) {
            for (int what = -1; what <= 7; what++) {
                same("node", n, what);
            }
            int space = n >= 0 && n < a.spaces.size() ? a.spaces.get(n) : 0;
            for (int label = -1; label <= space; label++) {
                for (int what = 0; what <= 3; what++) {
                    same("label", n, label, what);
                }
            }
            same("label", n, 0, -1);
            same("label", n, 0, 4);
        }
        for (int l = -1; l <= a.lines.size(); l++) {
            for (int what = -1; what <= 7; what++) {
                same("link", l, what);
            }
        }
        for (int i = -1; i <= 6; i++) {
            same("draftNode", i);
        }
        same("usage");
        same("weakLink");
        same("errorCode");
        same("errorPosition");
        viewCircuits(a);
        for (int p = -1; p <= a.packs.size(); p++) {
            for (int what = -1; what <= 7; what++) {
                same("packet", p, what);
            }
        }
    }

    private void viewCircuits(ReferenceDesk.All a) {
        for (int c = -1; c <= a.circuits.size(); c++) {
            for (int what = -1; what <= 15; what++) {
                same("circuit", c, what);
            }
            same("meanDelay", c);
            same("movedIn", c);
            same("canMove", c, below(a.lines.size() + 1) - 1);
            for (int i = -1; i <= 6; i++) {
                for (int what = -1; what <= 3; what++) {
                    same("way", c, true, i, what);
                    same("way", c, false, i, what);
                }
            }
        }
        for (int what = 0; what <= 3; what++) {
            same("ahead", 1 + below(30), what);
        }
    }
}
