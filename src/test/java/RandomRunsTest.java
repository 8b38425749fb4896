import java.lang.reflect.InvocationTargetException;
import java.lang.reflect.Method;
import java.util.ArrayList;
import java.util.Arrays;
import java.util.Collections;
import java.util.HashMap;
import java.util.List;
import java.util.Map;
import java.util.Random;

/**
 * Runs of drawn calls, with fixed seeds, on CircuitDesk and on ReferenceDesk side by side: each
 * answer, each exception and every now and then all that can be seen must be the same. No desk is
 * asked more often than the document promises answers for.
 * Arguments, all optional: the root of the project, the first seed, the number of runs and the
 * number of texts.
 */
public final class RandomRunsTest {
    /** What a desk answers behind its 512th call is free. */
    private static final int MOST_CALLS = 512;
    /** The calls of a run, so that some are left to look at what it has come to. */
    private static final int LONGEST = 380;
    private static final int CALLS_OF_A_STEP = 12;
    private static final int CALLS_OF_A_TEXT = 204;
    private static final int ENOUGH = 400;
    private static final Map<String, Method> DESK = methods(CircuitDesk.class);
    private static final Map<String, Method> REFERENCE = methods(ReferenceDesk.class);

    private final Random random;
    private final DrawnTexts texts;
    private final CircuitDesk desk = new CircuitDesk();
    private final ReferenceDesk reference = new ReferenceDesk();
    private final List<Asked> calls = new ArrayList<>();
    private final List<Asked> questions = new ArrayList<>();
    private final Check check;
    private final Map<String, Integer> seen;
    private boolean isWrong = false;
    /** Whether the links are slow and wide, so that there are many packets. */
    private final boolean isBusy;

    /** A call with its arguments. */
    private record Asked(String name, Object[] args) {
        Object of(Map<String, Method> methods, Object on) {
            try {
                Object got = methods.get(name + args.length).invoke(on, args);
                return got == null ? "done" : got;
            } catch (InvocationTargetException e) {
                return "throws " + e.getCause().getClass().getSimpleName();
            } catch (IllegalAccessException e) {
                throw new UnsupportedOperationException(e);
            }
        }

        @Override
        public String toString() {
            return name + Arrays.toString(args);
        }
    }

    private RandomRunsTest(long seed, Check check, Map<String, Integer> seen) {
        random = new Random(seed);
        texts = new DrawnTexts(random);
        isBusy = seed % 8 == 0;
        this.check = check;
        this.seen = seen;
    }

    public static void main(String[] args) {
        int first = args.length > 1 ? Integer.parseInt(args[1]) : 1;
        int many = args.length > 2 ? Integer.parseInt(args[2]) : ENOUGH;
        int texts = args.length > 3 ? Integer.parseInt(args[3]) : 3000;
        Check check = new Check();
        Map<String, Integer> seen = new HashMap<>();
        for (int seed = first; seed < first + many && check.wrongOnes() < 3; seed++) {
            RandomRunsTest run = new RandomRunsTest(seed, check, seen);
            run.play();
            check.dueTrue("seed " + seed + " is wrong", !run.isWrong);
        }
        int read = 0;
        for (int seed = -first; read < texts && check.wrongOnes() < 3; seed--) {
            RandomRunsTest reader = new RandomRunsTest(seed, check, seen);
            read += reader.readTexts();
            check.dueTrue("the texts of seed " + seed + " are wrong", !reader.isWrong);
        }
        demandThatAllWasSeen(check, seen, many);
        check.end("RandomRunsTest");
    }

    /** A run that never reaches a reason or an error code would test nothing of it. */
    private static void demandThatAllWasSeen(Check check, Map<String, Integer> seen, int many) {
        if (many < ENOUGH) {
            return;
        }
        String[] due = {"open 0", "open 1", "open 3", "open 5", "open 6", "close 0", "close 2",
            "close 8", "move 0", "move 2", "move 3", "move 4", "move 5", "move 6", "moveBest 0",
            "moveBest 2", "moveBest 3", "moveBest 4", "moveBest 6", "abort 0", "abort 7",
            "canMove 0", "canMove 2", "canMove 3", "canMove 4", "canMove 6", "load ok", "code 1",
            "code 2", "code 3", "code 4", "code 5", "late", "lost", "dropped", "60 packets",
            "lent 2", "phase 1", "phase 2", "phase 3", "held", "weakLink -1", "weakLink 0"};
        for (String name : due) {
            check.dueTrue("no run has seen: " + name, seen.containsKey(name));
        }
    }

    private static Map<String, Method> methods(Class<?> of) {
        Map<String, Method> methods = new HashMap<>();
        for (Method m : of.getDeclaredMethods()) {
            methods.put(m.getName() + m.getParameterCount(), m);
        }
        return methods;
    }

    private Object call(String name, Object... args) {
        if (calls.size() >= MOST_CALLS) {
            throw new IllegalStateException("the test asks one desk too often");
        }
        Asked asked = new Asked(name, args);
        calls.add(asked);
        Object got = asked.of(DESK, desk);
        compare(asked, got);
        seen.merge(name + " " + got, 1, Integer::sum);
        return got;
    }

    private void compare(Asked asked, Object got) {
        Object want = asked.of(REFERENCE, reference);
        if (!got.equals(want) && !isWrong) {
            isWrong = true;
            check.fault("after " + calls.subList(Math.max(0, calls.size() - 30), calls.size())
                    + "\n  " + asked + " answered " + got + ", due is " + want);
        }
    }

    private void play() {
        build();
        for (int i = 0; calls.size() + CALLS_OF_A_STEP <= LONGEST && !isWrong; i++) {
            step();
            call("count", ranged(0, 16));
            if (i % 45 == 0) {
                view();
            }
            noteSeen();
        }
        view();
    }

    /** Answers how many texts were read, one behind the other on one desk. */
    private int readTexts() {
        int read = 0;
        while (calls.size() + CALLS_OF_A_TEXT <= LONGEST && !isWrong) {
            loadText();
            read++;
        }
        if (random.nextInt(10) == 0) {
            view();
        }
        return read;
    }

    private void noteSeen() {
        ReferenceDesk.All a = reference.a;
        note("late", a.late > 0);
        note("lost", a.lost > 0);
        note("dropped", a.dropped > 0);
        note("60 packets", a.packs.size() == 60);
        note("lent 2", reference.count(12) >= 2);
        for (ReferenceDesk.Circ c : a.circuits) {
            note("phase " + c.phase, true);
            note("held", c.held > 0);
        }
    }

    private void note(String name, boolean is) {
        if (is) {
            seen.merge(name, 1, Integer::sum);
        }
    }

    private int below(int bound) {
        return random.nextInt(Math.max(1, bound));
    }

    private int nodes() {
        return reference.a.spaces.size();
    }

    /** Mostly a number below the bound, sometimes one outside. */
    private int index(int bound) {
        if (below(25) == 0) {
            return outside(0, bound - 1);
        }
        return below(bound);
    }

    private int ranged(int least, int most) {
        if (below(25) == 0) {
            return outside(least, most);
        }
        return least + below(most - least + 1);
    }

    private int outside(int least, int most) {
        switch (below(6)) {
            case 0: return Integer.MIN_VALUE;
            case 1: return Integer.MAX_VALUE;
            case 2: case 3: return least - 1;
            default: return most + 1;
        }
    }

    private void build() {
        if (!isBusy && below(2) == 0) {
            loadText();
        }
        if (nodes() > 1) {
            return;
        }
        int nodes = 3 + below(8);
        int widest = isBusy || below(4) == 0 ? 12 : 1 + below(3);
        for (int i = 0; i < nodes; i++) {
            call("addNode", 1 + below(widest));
        }
        int slowest = isBusy || below(3) == 0 ? 9 : 3;
        int widestLink = isBusy || below(2) == 0 ? 99 : 25;
        int tries = nodes + below(16);
        for (int i = 0; i < tries; i++) {
            call("addLink", below(nodes), below(nodes), 5 + below(widestLink - 4),
                    1 + below(slowest));
        }
    }

    private void step() {
        int circuits = reference.a.circuits.size();
        int links = reference.a.lines.size();
        int kind = below(100);
        if (kind < 14) {
            if (!pathDraft(below(nodes()), below(nodes()))) {
                walk();
            }
            call("open", ranged(1, below(3) == 0 ? 20 : 3), isBusy ? 1 : ranged(0, 9));
        } else if (kind < 20) {
            call("draftBest", index(nodes()), index(nodes()), ranged(1, 20));
            if (below(2) == 0) {
                call("open", 1 + below(5), below(3));
            }
        } else if (kind < 30) {
            moveSomewhere(index(circuits));
        } else if (kind < 38) {
            call("moveBest", index(circuits), below(links + 1) - 1);
        } else if (kind < 42) {
            call("abort", index(circuits));
        } else if (kind < 47) {
            call("offer", index(circuits), ranged(1, 9));
        } else if (kind < 70) {
            call("run", below(10) == 0 ? ranged(1, 200) : 1 + below(4));
        } else {
            rareStep(circuits, links);
        }
    }

    private void rareStep(int circuits, int links) {
        switch (below(16)) {
            case 0: call("close", index(circuits)); break;
            case 1: if (!isBusy) call("setUp", index(links), false); break;
            case 2: call("setUp", index(links), true); break;
            case 3: call("set", ranged(0, 1), ranged(0, 1)); break;
            case 4: call("set", 0, ranged(0, 4)); break;
            case 5: call("ahead", ranged(1, below(2) == 0 ? 200 : 20), ranged(0, 3)); break;
            case 6: call("weakLink"); break;
            case 7: call("save", ranged(0, 1)); break;
            case 8: if (below(3) == 0) call("restore", ranged(0, 1)); break;
            case 9: call("movedIn", index(circuits)); break;
            case 10: call("canMove", index(circuits), ranged(-1, links)); break;
            case 11: call("moveBest", index(circuits), ranged(-1, links)); break;
            case 12: loadTextIfThereIsTime(); break;
            case 13: call("draft", index(nodes())); break;
            case 14: call("addNode", ranged(1, 12)); break;
            default:
                call("addLink", index(nodes()), index(nodes()), ranged(1, 99), ranged(1, 9));
                break;
        }
    }

    private void walk() {
        call("clearDraft");
        int steps = below(7);
        for (int i = 0; i < steps; i++) {
            call("draft", index(nodes()));
        }
    }

    private void moveSomewhere(int circuit) {
        if (circuit >= 0 && circuit < reference.a.circuits.size() && below(8) != 0) {
            List<ReferenceDesk.Hop> way = reference.a.circuits.get(circuit).way;
            pathDraft(way.get(0).node, way.get(way.size() - 1).node);
        }
        call("move", circuit);
    }

    /** Drafts a drawn way between two nodes; answers whether one was found. */
    private boolean pathDraft(int from, int to) {
        if (from == to || nodes() < 2) {
            return false;
        }
        List<Integer> path = new ArrayList<>();
        path.add(from);
        if (!extend(path, to)) {
            return false;
        }
        call("clearDraft");
        for (int node : path) {
            call("draft", node);
        }
        return true;
    }

    private boolean extend(List<Integer> path, int to) {
        int last = path.get(path.size() - 1);
        if (last == to) {
            return true;
        }
        if (path.size() == 6) {
            return false;
        }
        List<Integer> next = new ArrayList<>();
        for (ReferenceDesk.Line l : reference.a.lines) {
            if (l.one == last || l.other == last) {
                next.add(l.one == last ? l.other : l.one);
            }
        }
        next.removeAll(path);
        Collections.shuffle(next, random);
        for (int node : next) {
            path.add(node);
            if (extend(path, to)) {
                return true;
            }
            path.remove(path.size() - 1);
        }
        return false;
    }

    // ---- setup texts

    private void loadTextIfThereIsTime() {
        if (below(6) == 0 && calls.size() + CALLS_OF_A_TEXT <= LONGEST) {
            loadText();
        }
    }

    private void loadText() {
        put(texts.draw());
        Object answer = call("load");
        note("load ok", !answer.equals(-1));
        Object code = call("errorCode");
        note("code " + code, true);
        call("errorPosition");
    }

    private void put(String text) {
        String read = text.length() > 796 ? text.substring(0, 796) : text;
        for (int i = 0; i < read.length(); i += 4) {
            int four = 0;
            for (int j = i; j < i + 4; j++) {
                four = four << 8 | (j < read.length() ? read.charAt(j) & 255 : below(256));
            }
            call("appendText", four);
        }
        call("truncateText", read.length());
        if (below(20) == 0) {
            call("truncateText", read.length() + 1);
        }
    }

    // ---- all that can be seen

    private void view() {
        questions.clear();
        ReferenceDesk.All a = reference.a;
        for (int what = -1; what <= 17; what++) {
            ask("count", what);
        }
        for (int n = -1; n <= a.spaces.size(); n++) {
            for (int what = -1; what <= 7; what++) {
                ask("node", n, what);
            }
            int space = n >= 0 && n < a.spaces.size() ? a.spaces.get(n) : 0;
            for (int label = -1; label <= space; label++) {
                for (int what = 0; what <= 3; what++) {
                    ask("label", n, label, what);
                }
            }
            ask("label", n, 0, -1);
            ask("label", n, 0, 4);
        }
        for (int l = -1; l <= a.lines.size(); l++) {
            for (int what = -1; what <= 7; what++) {
                ask("link", l, what);
            }
        }
        for (int i = -1; i <= 6; i++) {
            ask("draftNode", i);
        }
        ask("usage");
        ask("weakLink");
        ask("errorCode");
        ask("errorPosition");
        viewCircuits(a);
        for (int p = -1; p <= a.packs.size(); p++) {
            for (int what = -1; what <= 7; what++) {
                ask("packet", p, what);
            }
        }
        askNewDesks();
    }

    private void ask(String name, Object... args) {
        questions.add(new Asked(name, args));
    }

    /** There are more questions than a desk is asked: desks that have come as far share them. */
    private void askNewDesks() {
        CircuitDesk asked = desk;
        int left = 0;
        for (int i = 0; i < questions.size() && !isWrong; i++) {
            if (left == 0) {
                asked = playedAgain();
                left = MOST_CALLS - calls.size();
            }
            compare(questions.get(i), questions.get(i).of(DESK, asked));
            left--;
        }
    }

    private CircuitDesk playedAgain() {
        CircuitDesk other = new CircuitDesk();
        for (Asked made : calls) {
            made.of(DESK, other);
        }
        return other;
    }

    private void viewCircuits(ReferenceDesk.All a) {
        for (int c = -1; c <= a.circuits.size(); c++) {
            for (int what = -1; what <= 15; what++) {
                ask("circuit", c, what);
            }
            ask("meanDelay", c);
            ask("movedIn", c);
            ask("canMove", c, below(a.lines.size() + 1) - 1);
            for (int i = -1; i <= 6; i++) {
                for (int what = -1; what <= 3; what++) {
                    ask("way", c, true, i, what);
                    ask("way", c, false, i, what);
                }
            }
        }
        for (int what = 0; what <= 3; what++) {
            ask("ahead", 1 + below(30), what);
        }
    }
}
