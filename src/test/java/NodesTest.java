/** Promises 7 to 14: nodes, links, settings and labels. */
public final class NodesTest {
    private static final Check CHECK = new Check();

    public static void main(String[] args) {
        addNode();
        addLink();
        setUp();
        set();
        count();
        nodeAndLabel();
        link();
        lenders();
        CHECK.end("NodesTest");
    }

    private static void addNode() {
        CircuitDesk desk = new CircuitDesk();
        CHECK.dueIllegalArgument("addNode(0)", () -> desk.addNode(0));
        CHECK.dueIllegalArgument("addNode(13)", () -> desk.addNode(13));
        CHECK.dueIllegalArgument("addNode(-5)", () -> desk.addNode(-5));
        for (int i = 0; i < 10; i++) {
            CHECK.due("addNode", desk.addNode(i == 0 ? 12 : i), i);
        }
        CHECK.due("SPACE", desk.node(0, 0), 12);
        CHECK.due("SPACE", desk.node(9, 0), 9);
        CHECK.dueIllegalState("addNode(1), an 11th", () -> desk.addNode(1));
        CHECK.dueIllegalArgument("addNode(13), an 11th", () -> desk.addNode(13));
        CHECK.due("nodes", desk.count(2), 10);
    }

    private static void addLink() {
        CircuitDesk desk = new CircuitDesk();
        for (int i = 0; i < 10; i++) {
            desk.addNode(1);
        }
        CHECK.dueOutOfBounds("addLink(-1..)", () -> desk.addLink(-1, 0, 1, 1));
        CHECK.dueOutOfBounds("addLink(0, 10..)", () -> desk.addLink(0, 10, 1, 1));
        CHECK.dueOutOfBounds("addLink(10, 10, 0, 0)", () -> desk.addLink(10, 10, 0, 0));
        CHECK.dueIllegalArgument("addLink(0, 0..)", () -> desk.addLink(0, 0, 1, 1));
        CHECK.dueIllegalArgument("CAPACITY 0", () -> desk.addLink(0, 1, 0, 1));
        CHECK.dueIllegalArgument("CAPACITY 100", () -> desk.addLink(0, 1, 100, 1));
        CHECK.dueIllegalArgument("DELAY 0", () -> desk.addLink(0, 1, 1, 0));
        CHECK.dueIllegalArgument("DELAY 10", () -> desk.addLink(0, 1, 1, 10));
        CHECK.due("addLink", desk.addLink(0, 1, 99, 9), 0);
        CHECK.dueIllegalState("addLink again", () -> desk.addLink(0, 1, 1, 1));
        CHECK.dueIllegalState("addLink the other way round", () -> desk.addLink(1, 0, 1, 1));
        CHECK.dueIllegalArgument("addLink again, DELAY 10", () -> desk.addLink(1, 0, 1, 10));
        for (int i = 1; i < 9; i++) {
            CHECK.due("addLink", desk.addLink(i + 1, i, 1, 1), i);
        }
        for (int i = 0; i < 7; i++) {
            CHECK.due("addLink", desk.addLink(i, i + 2, 1, 1), 9 + i);
        }
        CHECK.dueIllegalState("a 17th link", () -> desk.addLink(7, 9, 1, 1));
        CHECK.due("links", desk.count(3), 16);
        CHECK.due("links of node 2", desk.node(2, 6), 4);
        CHECK.due("links of node 9", desk.node(9, 6), 1);
    }

    private static void setUp() {
        CircuitDesk desk = Check.desk("node 3;node 3;node 3;link 0 1 9 2;link 1 2 9 3;"
                + "circuit 1 1 0 1 2;circuit 1 0 2 1;");
        CHECK.dueOutOfBounds("setUp(-1)", () -> desk.setUp(-1, true));
        CHECK.dueOutOfBounds("setUp(2)", () -> desk.setUp(2, false));
        desk.run(4);
        CHECK.due("packets on link 0", desk.link(0, 6), 2);
        CHECK.due("packets on link 1", desk.link(1, 6), 2);
        CHECK.dueTrue("setUp(0, true) of one that is up", desk.setUp(0, true));
        CHECK.due("nothing is lost by a repair", desk.count(9), 0);
        CHECK.dueTrue("setUp(0, false)", desk.setUp(0, false));
        CHECK.due("lost", desk.count(9), 2);
        CHECK.due("lost ones of the circuit", desk.circuit(0, 9), 2);
        CHECK.due("packets left", desk.count(6), 2);
        CHECK.due("the first one left", desk.packet(0, 1), 0);
        CHECK.due("the second one left", desk.packet(1, 1), 1);
        CHECK.dueTrue("setUp(0, false) again", !desk.setUp(0, false));
        CHECK.due("up", desk.link(0, 4), 0);
        desk.run(1);
        CHECK.due("a packet sent to a link that is down is lost", desk.count(9), 3);
        CHECK.due("sent", desk.circuit(0, 7), 5);
        CHECK.dueTrue("setUp(0, true)", !desk.setUp(0, true));
        desk.run(1);
        CHECK.due("no more lost", desk.count(9), 3);
        desk.setUp(1, false);
        CHECK.due("lost on link 1", desk.count(9), 4);
        CHECK.due("delivered before", desk.count(8), 1);
        desk.run(2);
        CHECK.due("a packet that would go on a link that is down is lost", desk.count(9), 5);
    }

    private static void set() {
        CircuitDesk desk = new CircuitDesk();
        CHECK.due("set(0, 4)", desk.set(0, 4), 1);
        CHECK.due("set(0, 0)", desk.set(0, 0), 4);
        CHECK.due("set(1, 1)", desk.set(1, 1), 0);
        CHECK.due("set(1, 0)", desk.set(1, 0), 1);
        CHECK.dueIllegalArgument("set(-1, 0)", () -> desk.set(-1, 0));
        CHECK.dueIllegalArgument("set(2, 0)", () -> desk.set(2, 0));
        CHECK.dueIllegalArgument("set(0, 5)", () -> desk.set(0, 5));
        CHECK.dueIllegalArgument("set(0, -1)", () -> desk.set(0, -1));
        CHECK.dueIllegalArgument("set(1, 2)", () -> desk.set(1, 2));
        CHECK.due("BORROW", desk.count(0), 0);
        CHECK.due("ORDER", desk.count(1), 0);
    }

    private static void count() {
        CircuitDesk desk = Check.desk("node 1;node 1;node 3;link 0 1 9 1;link 1 2 9 1;link 0 2 9 3;"
                + "circuit 1 1 0 1;circuit 1 0 0 1;circuit 1 0 0 2;set 0 2;set 1 1;");
        desk.draft(2);
        desk.offer(1, 9);
        desk.offer(1, 2);
        desk.run(3);
        desk.moveBest(2, 0);
        desk.setUp(0, false);
        // sent 6 by then, two a tick; each takes a tick, so that the last two were on link 0
        int[] due = {2, 1, 3, 3, 3, 3, 0, 6, 4, 2, 2, 0, 1, 0, 0, 0, 1};
        for (int what = 0; what <= 16; what++) {
            CHECK.due("count(" + what + ")", desk.count(what), due[what]);
        }
        CHECK.due("moveBest without a way that differs", desk.moveBest(2, -1), 4);
        desk.setUp(0, true);
        CHECK.due("moveBest", desk.moveBest(2, 2), 0);
        CHECK.due("in a phase above 0", desk.count(13), 1);
        CHECK.due("aborted", desk.abort(2), 0);
        CHECK.due("moves that were aborted", desk.count(15), 1);
        CHECK.due("moveBest", desk.moveBest(2, 2), 0);
        desk.run(desk.movedIn(2));
        CHECK.due("moves that were completed", desk.count(14), 1);
        CHECK.due("in a phase above 0", desk.count(13), 0);
        CHECK.dueIllegalArgument("count(-1)", () -> desk.count(-1));
        CHECK.dueIllegalArgument("count(17)", () -> desk.count(17));
    }

    private static void nodeAndLabel() {
        CircuitDesk desk = Check.desk("node 2;node 2;node 4;link 0 1 50 1;link 1 2 50 1;"
                + "link 0 2 50 5;set 0 2;"
                + "circuit 1 0 0 1 2;circuit 1 0 0 1;circuit 1 0 0 1;circuit 1 0 0 1;");
        int[][] due = {{2, 1, 0, 1, 0, 0, 2}, {2, 0, 2, 0, 2, 4, 2}, {4, 2, 1, 1, 0, 1, 2}};
        for (int n = 0; n < 3; n++) {
            for (int what = 0; what <= 6; what++) {
                CHECK.due("node(" + n + ", " + what + ")", desk.node(n, what), due[n][what]);
            }
        }
        // The first is lent by node 2 (3 free labels against 2); the second by node 0 (2 and 2).
        CHECK.due("space of circuit 2", desk.way(2, false, 1, 1), 2);
        CHECK.due("label of circuit 2", desk.way(2, false, 1, 2), 3);
        CHECK.due("space of circuit 3", desk.way(3, false, 1, 1), 0);
        CHECK.due("label of circuit 3", desk.way(3, false, 1, 2), 1);
        int[] label = {1, 2, 0, 1};
        for (int what = 0; what <= 3; what++) {
            CHECK.due("label(2, 3, " + what + ")", desk.label(2, 3, what), label[what]);
            CHECK.due("label(2, 1, " + what + ")", desk.label(2, 1, what), -1);
        }
        Check.draft(desk, 0, 2);
        CHECK.due("move", desk.move(0), 0);
        int[] fresh = {2, 0, 1, 0};
        for (int what = 0; what <= 3; what++) {
            CHECK.due("label(2, 1, " + what + ")", desk.label(2, 1, what), fresh[what]);
        }
        CHECK.due("made entries of node 2", desk.node(2, 5), 1);
        desk.run(1);
        CHECK.due("made entries of node 2", desk.node(2, 5), 2);
        CHECK.due("label(2, 1, 3)", desk.label(2, 1, 3), 1);
        CHECK.due("close", desk.close(1), 0);
        CHECK.due("the circuit of a label has 1 less", desk.label(2, 3, 1), 1);
        CHECK.due("the label of the closed one is free", desk.label(1, 1, 0), -1);
        CHECK.dueOutOfBounds("node(-1, 0)", () -> desk.node(-1, 0));
        CHECK.dueOutOfBounds("node(3, 9)", () -> desk.node(3, 9));
        CHECK.dueIllegalArgument("node(0, 7)", () -> desk.node(0, 7));
        CHECK.dueIllegalArgument("node(0, -1)", () -> desk.node(0, -1));
        CHECK.dueOutOfBounds("label(3, 0, 0)", () -> desk.label(3, 0, 0));
        CHECK.dueOutOfBounds("label(0, 2, 9)", () -> desk.label(0, 2, 9));
        CHECK.dueOutOfBounds("label(0, -1, 0)", () -> desk.label(0, -1, 0));
        CHECK.dueIllegalArgument("label(0, 0, 4)", () -> desk.label(0, 0, 4));
        CHECK.dueIllegalArgument("label(0, 0, -1)", () -> desk.label(0, 0, -1));
    }

    private static void link() {
        CircuitDesk desk = Check.desk("node 5;node 5;node 5;link 2 1 40 3;link 0 2 30 1;"
                + "link 0 1 20 1;circuit 7 1 0 2 1;circuit 4 0 0 1;");
        Check.draft(desk, 0, 2, 1);
        CHECK.due("move", desk.move(1), 0);
        desk.run(3);
        int[] due = {2, 1, 40, 3, 1, 11, 2};
        for (int what = 0; what <= 6; what++) {
            CHECK.due("link(0, " + what + ")", desk.link(0, what), due[what]);
        }
        CHECK.due("reserved on the old way too", desk.link(2, 5), 4);
        Check.draft(desk, 0, 1);
        CHECK.due("move to a link of the old way alone", desk.move(0), 0);
        CHECK.due("reserved by a new way", desk.link(2, 5), 11);
        CHECK.dueOutOfBounds("link(-1, 0)", () -> desk.link(-1, 0));
        CHECK.dueOutOfBounds("link(3, 9)", () -> desk.link(3, 9));
        CHECK.dueIllegalArgument("link(0, 7)", () -> desk.link(0, 7));
        CHECK.dueIllegalArgument("link(0, -1)", () -> desk.link(0, -1));
    }

    /** Of the neighbours the one with the most free labels, up or down, of several the lowest. */
    private static void lenders() {
        CircuitDesk desk = Check.desk("node 1;node 1;node 5;node 5;node 9;"
                + "link 0 1 90 1;link 1 3 9 1;link 1 2 9 1;link 3 4 9 1;circuit 1 0 0 1;set 0 4;");
        desk.setUp(2, false);
        int[][] due = {{2, 4}, {3, 4}, {2, 3}, {3, 3}};
        for (int i = 0; i < 4; i++) {
            Check.draft(desk, 0, 1);
            CHECK.due("open", desk.open(1, 0), 0);
            CHECK.due("lender", desk.way(i + 1, false, 1, 1), due[i][0]);
            CHECK.due("its label", desk.way(i + 1, false, 1, 2), due[i][1]);
        }
        Check.draft(desk, 0, 1);
        CHECK.due("open above BORROW", desk.open(1, 0), 6);
        CHECK.due("close one of its own label", desk.close(0), 0);
        CHECK.due("open with its own label again", desk.open(1, 0), 0);
        CHECK.due("its space", desk.way(4, false, 1, 1), 1);
        CHECK.due("lent ones", desk.count(12), 4);
        CHECK.due("close", desk.close(2), 0);
        CHECK.due("a label that was returned is free", desk.label(2, 3, 0), -1);
        CHECK.due("lent ones", desk.count(12), 3);
    }
}
