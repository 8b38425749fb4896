import java.io.IOException;
import java.util.ArrayList;
import java.util.List;

/** EXCEPTIONS, sentence by sentence, for each method that throws. */
public final class EdgeThrowTest {
    private static final int MOST = Integer.MAX_VALUE;

    private interface Call {
        void make(CircuitDesk desk);
    }

    private static final class Case {
        final String name;
        final Class<?> due;
        final Call call;

        Case(String name, Class<?> due, Call call) {
            this.name = name;
            this.due = due;
            this.call = call;
        }
    }

    public static void main(String[] args) throws IOException {
        Edges.run(EdgeThrowTest.class, args);
    }

    private static void bounds(List<Case> cases, String name, Call call) {
        cases.add(new Case(name, IndexOutOfBoundsException.class, call));
    }

    private static void argument(List<Case> cases, String name, Call call) {
        cases.add(new Case(name, IllegalArgumentException.class, call));
    }

    private static void state(List<Case> cases, String name, Call call) {
        cases.add(new Case(name, IllegalStateException.class, call));
    }

    /** Circuit 0 builds a new way, both have packets; a draft, a text, an error, a saved state. */
    private static CircuitDesk busy() {
        CircuitDesk desk = Check.desk("node 3;node 2;node 3;link 0 1 20 3;link 1 2 20 2;"
                + "link 0 2 20 1;circuit 4 1 0 1 2;circuit 3 0 1 0;");
        Check.load(desk, "node x");
        desk.run(3);
        desk.save(0);
        desk.offer(1, 9);
        desk.moveBest(0, -1);
        desk.run(1);
        Check.draft(desk, 1, 0);
        desk.appendText(0x20202020);
        return desk;
    }

    /** Ten nodes, 16 links, a draft of six nodes. */
    private static CircuitDesk full() {
        CircuitDesk desk = Nets.full();
        Check.draft(desk, 0, 1, 2, 3, 4, 5);
        return desk;
    }

    private static void thrown(Check check, Case c, CircuitDesk desk) {
        try {
            c.call.make(desk);
            check.fault(c.name + " throws nothing, due is " + c.due);
        } catch (RuntimeException e) {
            check.dueTrue(c.name + " throws " + e + ", due is " + c.due, e.getClass() == c.due);
        }
    }

    private static void nothingChanges(Check check, List<Case> cases, boolean isFull) {
        for (Case c : cases) {
            CircuitDesk desk = isFull ? full() : busy();
            CircuitDesk twin = isFull ? full() : busy();
            thrown(check, c, desk);
            check.same(c.name + " changes something", View.withHidden(desk),
                    View.withHidden(twin));
        }
    }

    @Sentence(in = "EXCEPTIONS", says = "A method that throws an exception changes nothing.")
    static void promise08_aMethodThatThrowsChangesNothing(Check check) {
        List<Case> cases = new ArrayList<>();
        argument(cases, "truncateText(-1)", d -> d.truncateText(-1));
        argument(cases, "truncateText(5)", d -> d.truncateText(5));
        argument(cases, "addNode(0)", d -> d.addNode(0));
        argument(cases, "addNode(13)", d -> d.addNode(13));
        bounds(cases, "addLink(3, 0, 9, 1)", d -> d.addLink(3, 0, 9, 1));
        bounds(cases, "addLink(0, -1, 9, 1)", d -> d.addLink(0, -1, 9, 1));
        argument(cases, "addLink(1, 1, 9, 1)", d -> d.addLink(1, 1, 9, 1));
        argument(cases, "addLink(0, 1, 100, 1)", d -> d.addLink(0, 1, 100, 1));
        state(cases, "addLink(0, 1, 9, 1)", d -> d.addLink(0, 1, 9, 1));
        bounds(cases, "setUp(-1, false)", d -> d.setUp(-1, false));
        bounds(cases, "setUp(3, false)", d -> d.setUp(3, false));
        argument(cases, "set(2, 0)", d -> d.set(2, 0));
        argument(cases, "set(0, 5)", d -> d.set(0, 5));
        argument(cases, "set(1, 2)", d -> d.set(1, 2));
        nothingChanges(check, cases, false);
    }

    @Sentence(in = "EXCEPTIONS", says = "A method that throws an exception changes nothing.")
    static void promise12_aQuestionThatThrowsChangesNothing(Check check) {
        List<Case> cases = new ArrayList<>();
        argument(cases, "count(17)", d -> d.count(17));
        bounds(cases, "node(3, 0)", d -> d.node(3, 0));
        argument(cases, "node(0, 7)", d -> d.node(0, 7));
        bounds(cases, "label(0, 3, 0)", d -> d.label(0, 3, 0));
        argument(cases, "label(0, 0, 4)", d -> d.label(0, 0, 4));
        bounds(cases, "link(3, 0)", d -> d.link(3, 0));
        argument(cases, "link(0, 7)", d -> d.link(0, 7));
        bounds(cases, "circuit(2, 0)", d -> d.circuit(2, 0));
        argument(cases, "circuit(0, 15)", d -> d.circuit(0, 15));
        bounds(cases, "way(2, true, 0, 0)", d -> d.way(2, true, 0, 0));
        bounds(cases, "way(0, true, -1, 0)", d -> d.way(0, true, -1, 0));
        argument(cases, "way(0, true, 0, 3)", d -> d.way(0, true, 0, 3));
        bounds(cases, "packet(60, 0)", d -> d.packet(60, 0));
        argument(cases, "packet(0, 7)", d -> d.packet(0, 7));
        bounds(cases, "meanDelay(2)", d -> d.meanDelay(2));
        bounds(cases, "canMove(2, 0)", d -> d.canMove(2, 0));
        bounds(cases, "canMove(1, 3)", d -> d.canMove(1, 3));
        bounds(cases, "movedIn(2)", d -> d.movedIn(2));
        argument(cases, "ahead(0, 0)", d -> d.ahead(0, 0));
        argument(cases, "ahead(201, 0)", d -> d.ahead(201, 0));
        argument(cases, "ahead(1, 4)", d -> d.ahead(1, 4));
        nothingChanges(check, cases, false);
    }

    @Sentence(in = "EXCEPTIONS", says = "A method that throws an exception changes nothing.")
    static void promise21_anActThatThrowsChangesNothing(Check check) {
        List<Case> cases = new ArrayList<>();
        bounds(cases, "draft(3)", d -> d.draft(3));
        state(cases, "draft(1)", d -> d.draft(1));
        bounds(cases, "draftBest(0, 3, 1)", d -> d.draftBest(0, 3, 1));
        argument(cases, "draftBest(2, 2, 1)", d -> d.draftBest(2, 2, 1));
        argument(cases, "draftBest(0, 2, 21)", d -> d.draftBest(0, 2, 21));
        bounds(cases, "draftNode(-1)", d -> d.draftNode(-1));
        argument(cases, "open(21, 0)", d -> d.open(21, 0));
        argument(cases, "open(1, 10)", d -> d.open(1, 10));
        bounds(cases, "close(2)", d -> d.close(2));
        bounds(cases, "move(2)", d -> d.move(2));
        bounds(cases, "moveBest(2, 0)", d -> d.moveBest(2, 0));
        bounds(cases, "moveBest(1, 3)", d -> d.moveBest(1, 3));
        bounds(cases, "moveBest(1, -2)", d -> d.moveBest(1, -2));
        bounds(cases, "abort(2)", d -> d.abort(2));
        bounds(cases, "offer(2, 1)", d -> d.offer(2, 1));
        argument(cases, "offer(1, 10)", d -> d.offer(1, 10));
        argument(cases, "offer(1, 0)", d -> d.offer(1, 0));
        argument(cases, "run(0)", d -> d.run(0));
        argument(cases, "run(201)", d -> d.run(201));
        argument(cases, "save(2)", d -> d.save(2));
        argument(cases, "restore(2)", d -> d.restore(2));
        state(cases, "restore(1)", d -> d.restore(1));
        nothingChanges(check, cases, false);
    }

    @Sentence(in = "EXCEPTIONS", says = "A method that throws an exception changes nothing.")
    static void promise07_inAFullDeskNothingChangesEither(Check check) {
        List<Case> cases = new ArrayList<>();
        state(cases, "an 11th node", d -> d.addNode(1));
        state(cases, "a 17th link", d -> d.addLink(0, 9, 9, 1));
        state(cases, "a 7th node of the draft", d -> d.draft(6));
        nothingChanges(check, cases, true);
        CircuitDesk desk = new CircuitDesk();
        for (int i = 0; i < 199; i++) {
            desk.appendText(0x20202020);
        }
        desk.appendText(0x3b202020);
        check.dueIllegalState("above 800 bytes", () -> desk.appendText(0x3b3b3b3b));
        check.due("the length stays", desk.truncateText(800), 800);
        check.due("load", desk.load(), -1);
        check.due("the text stays", desk.errorPosition(), 796);
    }

    @Sentence(in = "EXCEPTIONS", says = "If several exceptions apply, the one that comes first in"
            + " the method's list of exceptions is thrown.")
    static void promise08_theFirstOfTheListIsThrown(Check check) {
        List<Case> cases = new ArrayList<>();
        argument(cases, "addNode(0), an 11th", d -> d.addNode(0));
        argument(cases, "addNode(13), an 11th", d -> d.addNode(13));
        bounds(cases, "addLink(10, 10, 9, 1)", d -> d.addLink(10, 10, 9, 1));
        bounds(cases, "addLink(-1, -1, 9, 1)", d -> d.addLink(-1, -1, 9, 1));
        bounds(cases, "addLink(0, 10, 0, 0), a 17th", d -> d.addLink(0, 10, 0, 0));
        bounds(cases, "addLink(-1, 0, 100, 10)", d -> d.addLink(-1, 0, 100, 10));
        argument(cases, "addLink(3, 3, 9, 1), a 17th", d -> d.addLink(3, 3, 9, 1));
        argument(cases, "addLink(0, 1, 0, 1), which is there", d -> d.addLink(0, 1, 0, 1));
        argument(cases, "addLink(1, 0, 1, 10), which is there", d -> d.addLink(1, 0, 1, 10));
        argument(cases, "addLink(0, 9, 100, 1), a 17th", d -> d.addLink(0, 9, 100, 1));
        bounds(cases, "draft(10), a 7th", d -> d.draft(10));
        bounds(cases, "draft(-1), a 7th", d -> d.draft(-1));
        bounds(cases, "draftBest(10, 10, 1)", d -> d.draftBest(10, 10, 1));
        bounds(cases, "draftBest(-1, 0, 0)", d -> d.draftBest(-1, 0, 0));
        bounds(cases, "draftBest(0, 10, 21)", d -> d.draftBest(0, 10, 21));
        bounds(cases, "node(-1, -1)", d -> d.node(-1, -1));
        bounds(cases, "node(10, 7)", d -> d.node(10, 7));
        bounds(cases, "label(10, 0, 4)", d -> d.label(10, 0, 4));
        bounds(cases, "label(0, 1, 4)", d -> d.label(0, 1, 4));
        bounds(cases, "label(0, -1, -1)", d -> d.label(0, -1, -1));
        bounds(cases, "link(16, 7)", d -> d.link(16, 7));
        bounds(cases, "link(-1, -1)", d -> d.link(-1, -1));
        argument(cases, "restore(2), nothing is saved", d -> d.restore(2));
        argument(cases, "restore(-1), nothing is saved", d -> d.restore(-1));
        for (Case c : cases) {
            thrown(check, c, full());
        }
    }

    @Sentence(in = "EXCEPTIONS", says = "the one that comes first in the method's list of"
            + " exceptions is thrown.")
    static void promise26_theFirstOfTheListIsThrownForCircuitsAndPackets(Check check) {
        List<Case> cases = new ArrayList<>();
        bounds(cases, "offer(2, 0)", d -> d.offer(2, 0));
        bounds(cases, "offer(-1, 10)", d -> d.offer(-1, 10));
        bounds(cases, "circuit(2, 15)", d -> d.circuit(2, 15));
        bounds(cases, "circuit(-1, -1)", d -> d.circuit(-1, -1));
        bounds(cases, "way(2, false, 0, 3)", d -> d.way(2, false, 0, 3));
        bounds(cases, "way(0, false, -1, 3)", d -> d.way(0, false, -1, 3));
        bounds(cases, "way(0, true, -1, -1)", d -> d.way(0, true, -1, -1));
        bounds(cases, "packet(60, 7)", d -> d.packet(60, 7));
        bounds(cases, "packet(-1, -1)", d -> d.packet(-1, -1));
        bounds(cases, "label(0, 3, MOST)", d -> d.label(0, 3, MOST));
        bounds(cases, "setUp(MOST, true)", d -> d.setUp(MOST, true));
        for (Case c : cases) {
            thrown(check, c, busy());
        }
    }
}
