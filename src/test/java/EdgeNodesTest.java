import java.io.IOException;

/** The promises 1 and 7 to 14, sentence by sentence. */
public final class EdgeNodesTest {
    private static final int LEAST = Integer.MIN_VALUE;
    private static final int MOST = Integer.MAX_VALUE;

    public static void main(String[] args) throws IOException {
        Edges.run(EdgeNodesTest.class, args);
    }

    // ---- Promise 1

    @Sentence(in = "EXCEPTIONS", says = "NONE = -1: There is none.")
    static void promise01_noneIsMinus1(Check check) {
        check.due("NONE", CircuitDesk.NONE, -1);
        check.due("an answer of NONE", new CircuitDesk().draftNode(0), CircuitDesk.NONE);
    }

    @Sentence(in = "Promise 1", says = "Creates a desk without nodes at the time 0")
    static void promise01_withoutNodesAtTheTime0(Check check) {
        CircuitDesk desk = new CircuitDesk();
        check.due("nodes", desk.count(2), 0);
        check.due("links", desk.count(3), 0);
        check.due("circuits", desk.count(4), 0);
        check.due("time", desk.count(5), 0);
        check.dueOutOfBounds("node(0, 0)", () -> desk.node(0, 0));
        check.dueOutOfBounds("link(0, 0)", () -> desk.link(0, 0));
        check.dueOutOfBounds("circuit(0, 0)", () -> desk.circuit(0, 0));
        check.dueOutOfBounds("packet(0, 0)", () -> desk.packet(0, 0));
        check.due("the first node", desk.addNode(1), 0);
    }

    @Sentence(in = "Promise 1", says = "with an empty text buffer")
    static void promise01_withAnEmptyTextBuffer(Check check) {
        CircuitDesk desk = new CircuitDesk();
        check.dueIllegalArgument("truncateText(1)", () -> desk.truncateText(1));
        check.due("truncateText(0)", desk.truncateText(0), 0);
        check.due("appendText", desk.appendText(0x20202020), 4);
        CircuitDesk other = new CircuitDesk();
        check.due("load", other.load(), 0);
        check.due("errorCode", other.errorCode(), 0);
    }

    @Sentence(in = "Promise 1", says = "an empty draft")
    static void promise01_withAnEmptyDraft(Check check) {
        CircuitDesk desk = new CircuitDesk();
        check.due("nodes of the draft", desk.count(16), 0);
        check.due("draftNode(0)", desk.draftNode(0), -1);
        check.due("clearDraft", desk.clearDraft(), 0);
        check.due("open", desk.open(1, 0), 3);
    }

    @Sentence(in = "Promise 1", says = "no saved states.")
    static void promise01_withoutSavedStates(Check check) {
        CircuitDesk desk = new CircuitDesk();
        check.dueIllegalState("restore(0)", () -> desk.restore(0));
        check.dueIllegalState("restore(1)", () -> desk.restore(1));
        new CircuitDesk().save(0);
        check.dueIllegalState("restore(0), saved in another desk", () -> desk.restore(0));
    }

    // ---- Promise 7

    @Sentence(in = "Promise 7", says = "Adds a node.")
    static void promise07_addsANode(Check check) {
        CircuitDesk desk = new CircuitDesk();
        desk.addNode(3);
        check.due("nodes", desk.count(2), 1);
        int[] due = {3, 3, 0, 0, 0, 0, 0};
        for (int what = 0; what <= 6; what++) {
            check.due("node(0, " + what + ")", desk.node(0, what), due[what]);
        }
        check.dueOutOfBounds("node(1, 0)", () -> desk.node(1, 0));
    }

    @Sentence(in = "Promise 7", says = "space: 1 to 12")
    static void promise07_space1To12(Check check) {
        CircuitDesk desk = new CircuitDesk();
        check.dueIllegalArgument("addNode(0)", () -> desk.addNode(0));
        check.due("addNode(1)", desk.addNode(1), 0);
        check.due("SPACE", desk.node(0, 0), 1);
        check.due("addNode(12)", desk.addNode(12), 1);
        check.due("SPACE", desk.node(1, 0), 12);
        check.dueIllegalArgument("addNode(13)", () -> desk.addNode(13));
    }

    @Sentence(in = "Promise 7", says = "Returns its number.")
    static void promise07_returnsItsNumber(Check check) {
        CircuitDesk desk = new CircuitDesk();
        for (int i = 0; i <= 9; i++) {
            check.due("addNode", desk.addNode(12 - i), i);
            check.due("SPACE of that number", desk.node(i, 0), 12 - i);
        }
    }

    @Sentence(in = "Promise 7", says = "Throws IllegalArgumentException if space is out of range")
    static void promise07_throwsIfSpaceIsOutOfRange(Check check) {
        CircuitDesk desk = new CircuitDesk();
        for (int space : new int[] {LEAST, -1, 0, 13, 14, MOST}) {
            check.dueIllegalArgument("addNode(" + space + ")", () -> desk.addNode(space));
        }
        check.due("nodes", desk.count(2), 0);
    }

    @Sentence(in = "Promise 7", says = "Throws IllegalStateException if there are 10 nodes")
    static void promise07_throwsIfThereAre10Nodes(Check check) {
        CircuitDesk desk = Check.desk(Nets.times(9, "node 1;"));
        check.due("with 9 nodes", desk.addNode(12), 9);
        check.dueIllegalState("with 10 nodes, addNode(1)", () -> desk.addNode(1));
        check.dueIllegalState("with 10 nodes, addNode(12)", () -> desk.addNode(12));
        check.due("nodes", desk.count(2), 10);
    }

    // ---- Promise 8

    @Sentence(in = "Promise 8", says = {"Adds a link.", "one: a node", "other: another node"})
    static void promise08_addsALinkBetweenTwoNodes(Check check) {
        CircuitDesk desk = Check.desk(Nets.times(10, "node 1;"));
        check.due("addLink(0, 9)", desk.addLink(0, 9, 9, 1), 0);
        check.due("addLink(9, 8)", desk.addLink(9, 8, 9, 1), 1);
        check.due("one", desk.link(0, 0), 0);
        check.due("other", desk.link(0, 1), 9);
        check.due("one", desk.link(1, 0), 9);
        check.due("other", desk.link(1, 1), 8);
        check.due("links", desk.count(3), 2);
        check.due("links of node 9", desk.node(9, 6), 2);
        check.dueIllegalArgument("addLink(0, 0)", () -> desk.addLink(0, 0, 9, 1));
        check.dueIllegalArgument("addLink(9, 9)", () -> desk.addLink(9, 9, 9, 1));
    }

    @Sentence(in = "Promise 8", says = "capacity: 1 to 99")
    static void promise08_capacity1To99(Check check) {
        CircuitDesk desk = Check.desk(Nets.times(3, "node 1;"));
        check.dueIllegalArgument("CAPACITY 0", () -> desk.addLink(0, 1, 0, 1));
        check.due("CAPACITY 1", desk.addLink(0, 1, 1, 1), 0);
        check.due("CAPACITY 99", desk.addLink(1, 2, 99, 1), 1);
        check.dueIllegalArgument("CAPACITY 100", () -> desk.addLink(0, 2, 100, 1));
        check.due("CAPACITY", desk.link(0, 2), 1);
        check.due("CAPACITY", desk.link(1, 2), 99);
    }

    @Sentence(in = "Promise 8", says = "delay: 1 to 9")
    static void promise08_delay1To9(Check check) {
        CircuitDesk desk = Check.desk(Nets.times(3, "node 1;"));
        check.dueIllegalArgument("DELAY 0", () -> desk.addLink(0, 1, 1, 0));
        check.due("DELAY 1", desk.addLink(0, 1, 1, 1), 0);
        check.due("DELAY 9", desk.addLink(1, 2, 1, 9), 1);
        check.dueIllegalArgument("DELAY 10", () -> desk.addLink(0, 2, 1, 10));
        check.due("DELAY", desk.link(0, 3), 1);
        check.due("DELAY", desk.link(1, 3), 9);
    }

    @Sentence(in = "Promise 8", says = "Returns its number.")
    static void promise08_returnsItsNumber(Check check) {
        CircuitDesk desk = Check.desk(Nets.times(10, "node 1;"));
        for (int i = 0; i <= 15; i++) {
            check.due("addLink", Nets.addLink(desk, i), i);
            check.due("one node of that number", desk.link(i, 0), i < 9 ? i : i - 9);
        }
    }

    @Sentence(in = "Promise 8", says = "Throws IndexOutOfBoundsException if there is no such node")
    static void promise08_throwsIfThereIsNoSuchNode(Check check) {
        CircuitDesk desk = Check.desk(Nets.times(3, "node 1;"));
        for (int node : new int[] {LEAST, -1, 3, 10, MOST}) {
            check.dueOutOfBounds("addLink(" + node + ", 0)", () -> desk.addLink(node, 0, 9, 1));
            check.dueOutOfBounds("addLink(2, " + node + ")", () -> desk.addLink(2, node, 9, 1));
        }
        CircuitDesk none = new CircuitDesk();
        check.dueOutOfBounds("addLink(0, 1) without nodes", () -> none.addLink(0, 1, 9, 1));
        check.due("addLink(0, 2)", desk.addLink(0, 2, 9, 1), 0);
    }

    @Sentence(in = "Promise 8", says = "Throws IllegalArgumentException if both nodes are the same,"
            + " or capacity or delay is out of range")
    static void promise08_throwsIfAnArgumentIsOutOfRange(Check check) {
        CircuitDesk desk = Check.desk(Nets.times(2, "node 1;"));
        check.dueIllegalArgument("addLink(1, 1)", () -> desk.addLink(1, 1, 9, 1));
        for (int capacity : new int[] {LEAST, -1, 0, 100, MOST}) {
            check.dueIllegalArgument("CAPACITY " + capacity,
                    () -> desk.addLink(0, 1, capacity, 1));
        }
        for (int delay : new int[] {LEAST, -1, 0, 10, MOST}) {
            check.dueIllegalArgument("DELAY " + delay, () -> desk.addLink(0, 1, 1, delay));
        }
        check.due("links", desk.count(3), 0);
    }

    @Sentence(in = "Promise 8", says = "Throws IllegalStateException if there is a link between"
            + " both, or there are 16 links")
    static void promise08_throwsIfThereIsALinkOrThereAre16(Check check) {
        CircuitDesk desk = Check.desk(Nets.pair(1, 9, 1) + "node 1;");
        check.dueIllegalState("addLink(0, 1)", () -> desk.addLink(0, 1, 9, 1));
        check.dueIllegalState("addLink(1, 0)", () -> desk.addLink(1, 0, 9, 1));
        desk.setUp(0, false);
        check.dueIllegalState("addLink(0, 1), down", () -> desk.addLink(0, 1, 9, 1));
        check.due("addLink(0, 2)", desk.addLink(0, 2, 9, 1), 1);
        CircuitDesk full = Nets.full();
        check.dueIllegalState("with 16 links", () -> full.addLink(0, 9, 9, 1));
        CircuitDesk almost = Check.desk(Nets.times(10, "node 1;"));
        for (int i = 0; i < 15; i++) {
            Nets.addLink(almost, i);
        }
        check.due("with 15 links", almost.addLink(0, 9, 9, 1), 15);
    }

    // ---- Promise 9

    @Sentence(in = "Promise 9", says = {"Lets a link fail, or repairs it.",
        "isUp: whether it is up then"})
    static void promise09_failsOrRepairsOneLink(Check check) {
        CircuitDesk desk = Check.desk(Nets.triangle(1, 9, 1, 1, 1));
        int[][] due = {{0, 1, 1}, {0, 1, 0}, {1, 1, 0}, {1, 1, 1}};
        for (int i = 0; i < 4; i++) {
            desk.setUp(i % 2 * 2, i >= 2);
            for (int link = 0; link <= 2; link++) {
                check.due("link " + link + " is up", desk.link(link, 4), due[i][link]);
            }
        }
    }

    @Sentence(in = "Promise 9", says = "Returns whether it was up before.")
    static void promise09_returnsWhetherItWasUp(Check check) {
        CircuitDesk desk = Check.desk(Nets.pair(1, 9, 1));
        check.dueTrue("up, to up", desk.setUp(0, true));
        check.dueTrue("up, to down", desk.setUp(0, false));
        check.dueTrue("down, to down", !desk.setUp(0, false));
        check.dueTrue("down, to up", !desk.setUp(0, true));
        check.dueTrue("up again", desk.setUp(0, true));
    }

    @Sentence(in = "Promise 9", says = {"link: a link",
        "Throws IndexOutOfBoundsException if there is no such link"})
    static void promise09_throwsIfThereIsNoSuchLink(Check check) {
        CircuitDesk none = Check.desk("node 1;node 1;");
        check.dueOutOfBounds("setUp(0) without links", () -> none.setUp(0, true));
        CircuitDesk desk = Nets.full();
        for (int link : new int[] {LEAST, -1, 16, 17, MOST}) {
            check.dueOutOfBounds("setUp(" + link + ")", () -> desk.setUp(link, false));
        }
        check.dueTrue("setUp(0)", desk.setUp(0, false));
        check.dueTrue("setUp(15)", desk.setUp(15, false));
        CircuitDesk one = Check.desk(Nets.pair(1, 9, 1));
        check.dueOutOfBounds("setUp(1) of one", () -> one.setUp(1, false));
    }

    // ---- Promise 10

    @Sentence(in = "Promise 10", says = {"Changes a setting.", "what: 0 or 1",
        "value: the new value"})
    static void promise10_changesOneOfTwoSettings(Check check) {
        CircuitDesk desk = new CircuitDesk();
        desk.set(0, 4);
        check.due("BORROW", desk.count(0), 4);
        check.due("ORDER", desk.count(1), 0);
        desk.set(1, 1);
        check.due("BORROW", desk.count(0), 4);
        check.due("ORDER", desk.count(1), 1);
        check.dueIllegalArgument("set(-1, 0)", () -> desk.set(-1, 0));
        check.dueIllegalArgument("set(2, 0)", () -> desk.set(2, 0));
    }

    @Sentence(in = "Promise 10", says = "Returns the previous value.")
    static void promise10_returnsThePreviousValue(Check check) {
        CircuitDesk desk = new CircuitDesk();
        int previous = 1;
        for (int value : new int[] {0, 4, 4, 1}) {
            check.due("set(0, " + value + ")", desk.set(0, value), previous);
            previous = value;
        }
        check.due("set(1, 1)", desk.set(1, 1), 0);
        check.due("set(1, 1)", desk.set(1, 1), 1);
        check.due("set(1, 0)", desk.set(1, 0), 1);
        check.due("set(0, 0)", desk.set(0, 0), 1);
    }

    @Sentence(in = "Promise 10", says = "Throws IllegalArgumentException if what is out of range,"
            + " or value is out of the range of the setting")
    static void promise10_throwsIfWhatOrValueIsOutOfRange(Check check) {
        CircuitDesk desk = new CircuitDesk();
        for (int what : new int[] {LEAST, -1, 2, 3, MOST}) {
            check.dueIllegalArgument("set(" + what + ", 0)", () -> desk.set(what, 0));
        }
        for (int value : new int[] {LEAST, -1, 5, MOST}) {
            check.dueIllegalArgument("set(0, " + value + ")", () -> desk.set(0, value));
            check.dueIllegalArgument("set(1, " + value + ")", () -> desk.set(1, value));
        }
        // of the range of BORROW, and not of that of ORDER
        check.dueIllegalArgument("set(1, 2)", () -> desk.set(1, 2));
        check.dueIllegalArgument("set(1, 4)", () -> desk.set(1, 4));
        check.due("BORROW", desk.count(0), 1);
        check.due("ORDER", desk.count(1), 0);
    }

    // ---- Promise 12

    @Sentence(in = "Promise 12", says = {"0: SPACE", "1: free labels of its space",
        "2: labels of its space that it has itself", "3: labels of its space that are lent",
        "4: labels that it has borrowed", "Returns that number."})
    static void promise12_labelsFromNoneToAll(Check check) {
        CircuitDesk desk = Check.desk("node 4;node 1;link 0 1 99 1;set 0 4;");
        // the first label that node 1 gets is its own; node 0 lends the others
        for (int had = 0; had <= 5; had++) {
            int lent = Math.max(0, had - 1);
            int own = Math.min(1, had);
            check.due("SPACE of the lender", desk.node(0, 0), 4);
            check.due("free labels of the lender", desk.node(0, 1), 4 - lent);
            check.due("labels that the lender has", desk.node(0, 2), 0);
            check.due("labels that are lent", desk.node(0, 3), lent);
            check.due("labels that the lender has borrowed", desk.node(0, 4), 0);
            check.due("SPACE of the borrower", desk.node(1, 0), 1);
            check.due("free labels of the borrower", desk.node(1, 1), 1 - own);
            check.due("its own labels", desk.node(1, 2), own);
            check.due("labels that the borrower lends", desk.node(1, 3), 0);
            check.due("borrowed labels", desk.node(1, 4), lent);
            check.due("open", Nets.open(desk, 1, 0, 1), had < 5 ? 0 : 6);
        }
    }

    @Sentence(in = "Promise 12", says = "5: made entries")
    static void promise12_madeEntries(Check check) {
        CircuitDesk desk = Check.desk("node 9;node 1;node 1;link 0 1 9 1;link 1 2 9 1;link 0 2 9 1;"
                + "circuit 1 0 0 1;circuit 1 0 0 2;");
        check.due("of its own label", desk.node(1, 5), 1);
        check.due("of the first node", desk.node(0, 5), 0);
        Nets.move(desk, 1, 0, 1, 2);
        check.due("none of a new way", desk.node(1, 5), 1);
        desk.run(1);
        check.due("the last node's, of a borrowed label or not", desk.node(2, 5), 2);
        check.due("not the second one's", desk.node(1, 5), 1);
        desk.run(1);
        check.due("the second one's", desk.node(1, 5), 2);
        check.due("labels that the second one has borrowed", desk.node(1, 4), 1);
        check.due("an entry is its borrower's, not its lender's", desk.node(0, 5), 0);
        desk.run(desk.movedIn(1));
        check.due("the old way's is cleared", desk.node(2, 5), 1);
        Nets.open(desk, 1, 1, 0);
        check.due("of the label 0 of node 0", desk.node(0, 5), 1);
    }

    @Sentence(in = "Promise 12", says = "6: links")
    static void promise12_links(Check check) {
        CircuitDesk desk = Check.desk(Nets.times(10, "node 1;"));
        for (int other = 1; other <= 9; other++) {
            check.due("links of node 0", desk.node(0, 6), other - 1);
            desk.addLink(other % 2 == 0 ? 0 : other, other % 2 == 0 ? other : 0, 9, 1);
        }
        check.due("links of node 0", desk.node(0, 6), 9);
        check.due("links of node 9", desk.node(9, 6), 1);
        desk.setUp(0, false);
        check.due("one that is down counts", desk.node(0, 6), 9);
    }

    @Sentence(in = "Promise 12", says = {"node: a node",
        "Throws IndexOutOfBoundsException if there is no such node"})
    static void promise12_throwsIfThereIsNoSuchNode(Check check) {
        CircuitDesk desk = Nets.full();
        for (int node : new int[] {LEAST, -1, 10, MOST}) {
            check.dueOutOfBounds("node(" + node + ", 0)", () -> desk.node(node, 0));
        }
        check.due("node(0, 0)", desk.node(0, 0), 1);
        check.due("node(9, 0)", desk.node(9, 0), 1);
        CircuitDesk one = Check.desk("node 1;");
        check.dueOutOfBounds("node(1, 0) of one", () -> one.node(1, 0));
    }

    @Sentence(in = "Promise 12", says = "Throws IllegalArgumentException if what is out of range")
    static void promise12_throwsIfWhatIsOutOfRange(Check check) {
        CircuitDesk desk = Check.desk("node 1;");
        for (int what : new int[] {LEAST, -1, 7, 8, MOST}) {
            check.dueIllegalArgument("node(0, " + what + ")", () -> desk.node(0, what));
        }
        check.due("node(0, 0)", desk.node(0, 0), 1);
        check.due("node(0, 6)", desk.node(0, 6), 0);
    }

    // ---- Promise 13

    @Sentence(in = "Promise 13", says = {"0: the node that has it (NONE if it is free)",
        "Returns that number; NONE for 1 to 3 if it is free."})
    static void promise13_theNodeThatHasItOrNone(Check check) {
        CircuitDesk desk = Check.desk("node 4;node 1;link 0 1 99 1;circuit 1 0 1 0;circuit 1 0 0 1;"
                + "circuit 1 0 0 1;");
        check.due("its own", desk.label(0, 0, 0), 0);
        check.due("free, between others", desk.label(0, 1, 0), -1);
        check.due("lent", desk.label(0, 3, 0), 1);
        for (int what = 1; what <= 3; what++) {
            check.due("label(0, 1, " + what + ")", desk.label(0, 1, what), -1);
            check.dueTrue("label(0, 0, " + what + ")", desk.label(0, 0, what) >= 0);
        }
        desk.close(2);
        for (int what = 0; what <= 3; what++) {
            check.due("given up: " + what, desk.label(0, 3, what), -1);
        }
    }

    @Sentence(in = "Promise 13", says = "1: the circuit")
    static void promise13_theCircuit(Check check) {
        CircuitDesk desk = Nets.circuits(8);
        for (int c = 0; c <= 7; c++) {
            check.due("circuit of label " + c, desk.label(1, c, 1), c);
        }
        desk.close(3);
        for (int c = 0; c <= 7; c++) {
            int due = c < 3 ? c : c == 3 ? -1 : c - 1;
            check.due("circuit of label " + c, desk.label(1, c, 1), due);
        }
        Nets.open(desk, 1, 1, 0);
        check.due("circuit of the label 0 of node 0", desk.label(0, 0, 1), 7);
        desk.close(0);
        check.due("circuit of the label 0 of node 0", desk.label(0, 0, 1), 6);
    }

    @Sentence(in = "Promise 13", says = "2: 0 for the way of the circuit, 1 for the new one")
    static void promise13_theWayOrTheNewOne(Check check) {
        CircuitDesk desk = Check.desk(Nets.triangle(4, 9, 1, 1, 1) + "circuit 1 0 0 1 2;");
        check.due("the way", desk.label(2, 0, 2), 0);
        Nets.move(desk, 0, 0, 2);
        for (int left = desk.movedIn(0); left > 0; left--) {
            check.due("the new one with " + left + " left", desk.label(2, 1, 2), 1);
            check.due("the old one with " + left + " left", desk.label(2, 0, 2), 0);
            desk.run(1);
        }
        check.due("the new one is the way", desk.label(2, 1, 2), 0);
        check.due("the old one is free", desk.label(2, 0, 2), -1);
        CircuitDesk six = Check.desk(Nets.row(6, 4, 9, 1) + "link 0 5 9 1;circuit 1 0 0 5;");
        Nets.move(six, 0, 0, 1, 2, 3, 4, 5);
        check.due("the old one beside six nodes", six.label(5, 0, 2), 0);
        check.due("the new one of six nodes", six.label(5, 1, 2), 1);
    }

    @Sentence(in = "Promise 13", says = "3: 1 if the entry is made, else 0")
    static void promise13_whetherTheEntryIsMade(Check check) {
        CircuitDesk desk = Check.desk(Nets.triangle(4, 9, 1, 1, 1) + "circuit 1 0 0 2;");
        Nets.move(desk, 0, 0, 1, 2);
        int[][] due = {{0, 0}, {0, 1}, {1, 1}};
        for (int ticks = 0; ticks <= 2; ticks++) {
            check.due("second node after " + ticks, desk.label(1, 0, 3), due[ticks][0]);
            check.due("last node after " + ticks, desk.label(2, 1, 3), due[ticks][1]);
            check.due("the way's", desk.label(2, 0, 3), 1);
            desk.run(1);
        }
    }

    @Sentence(in = "Promise 13", says = {"node: a node", "label: a label of its space",
        "Throws IndexOutOfBoundsException if there is no such node or label"})
    static void promise13_throwsIfThereIsNoSuchNodeOrLabel(Check check) {
        CircuitDesk desk = Check.desk("node 1;node 12;node 5;");
        for (int node : new int[] {LEAST, -1, 3, MOST}) {
            check.dueOutOfBounds("label(" + node + ", 0, 0)", () -> desk.label(node, 0, 0));
        }
        for (int label : new int[] {LEAST, -1, 12, MOST}) {
            check.dueOutOfBounds("label(1, " + label + ", 0)", () -> desk.label(1, label, 0));
        }
        check.dueOutOfBounds("label(0, 1, 0)", () -> desk.label(0, 1, 0));
        check.dueOutOfBounds("label(2, 5, 0)", () -> desk.label(2, 5, 0));
        check.due("label(0, 0, 0)", desk.label(0, 0, 0), -1);
        check.due("label(1, 11, 0)", desk.label(1, 11, 0), -1);
        check.due("label(2, 4, 0)", desk.label(2, 4, 0), -1);
    }

    @Sentence(in = "Promise 13", says = "Throws IllegalArgumentException if what is out of range")
    static void promise13_throwsIfWhatIsOutOfRange(Check check) {
        CircuitDesk desk = Nets.circuits(1);
        for (int what : new int[] {LEAST, -1, 4, 5, MOST}) {
            check.dueIllegalArgument("of a free one: " + what, () -> desk.label(1, 1, what));
            check.dueIllegalArgument("of one that is had: " + what, () -> desk.label(1, 0, what));
        }
        check.due("label(1, 0, 0)", desk.label(1, 0, 0), 1);
        check.due("label(1, 0, 3)", desk.label(1, 0, 3), 1);
    }

    // ---- Promise 14

    @Sentence(in = "Promise 14", says = {"0: one node", "1: the other one", "2: CAPACITY",
        "3: DELAY", "4: 1 if it is up, else 0", "Returns that number."})
    static void promise14_whatALinkIs(Check check) {
        CircuitDesk desk = Check.desk(Nets.times(10, "node 1;"));
        desk.addLink(9, 0, 99, 9);
        desk.addLink(0, 1, 1, 1);
        int[][] due = {{9, 0, 99, 9, 1, 0, 0}, {0, 1, 1, 1, 1, 0, 0}};
        for (int link = 0; link <= 1; link++) {
            for (int what = 0; what <= 6; what++) {
                check.due("link(" + link + ", " + what + ")", desk.link(link, what),
                        due[link][what]);
            }
        }
        desk.setUp(0, false);
        check.due("down", desk.link(0, 4), 0);
        desk.setUp(0, true);
        check.due("up", desk.link(0, 4), 1);
    }

    @Sentence(in = "Promise 14", says = "5: what is reserved on it")
    static void promise14_whatIsReservedFromNoneToAll(Check check) {
        CircuitDesk desk = Check.desk(Nets.pair(9, 99, 1));
        int[] bands = {20, 20, 20, 20, 19};
        int sum = 0;
        for (int band : bands) {
            check.due("reserved", desk.link(0, 5), sum);
            Nets.open(desk, band, 0, 1);
            sum += band;
        }
        check.due("all of 99", desk.link(0, 5), 99);
        check.due("not more", Nets.open(desk, 1, 0, 1), 5);
        check.due("all of 99", desk.link(0, 5), 99);
        desk.setUp(0, false);
        check.due("also while it is down", desk.link(0, 5), 99);
        desk.close(0);
        check.due("less when one is closed", desk.link(0, 5), 79);
    }

    @Sentence(in = "Promise 14", says = "6: packets on it")
    static void promise14_packetsOnIt(Check check) {
        CircuitDesk none = Nets.packets(1);
        check.due("on a link without any", none.link(1, 6), 0);
        check.due("1", none.link(0, 6), 1);
        none.run(8);
        check.due("in its last tick", none.link(0, 6), 1);
        none.run(1);
        check.due("gone on", none.link(0, 6), 0);
        check.due("on the next link", none.link(1, 6), 1);
        check.due("60", Nets.packets(60).link(0, 6), 60);
    }

    @Sentence(in = "Promise 14", says = {"link: a link",
        "Throws IndexOutOfBoundsException if there is no such link"})
    static void promise14_throwsIfThereIsNoSuchLink(Check check) {
        CircuitDesk desk = Nets.full();
        for (int link : new int[] {LEAST, -1, 16, MOST}) {
            check.dueOutOfBounds("link(" + link + ", 0)", () -> desk.link(link, 0));
        }
        check.due("link(0, 0)", desk.link(0, 0), 0);
        check.due("link(15, 0)", desk.link(15, 0), 6);
        CircuitDesk one = Check.desk(Nets.pair(1, 9, 1));
        check.dueOutOfBounds("link(1, 0) of one", () -> one.link(1, 0));
        CircuitDesk none = Check.desk("node 1;");
        check.dueOutOfBounds("link(0, 0) of none", () -> none.link(0, 0));
    }

    @Sentence(in = "Promise 14", says = "Throws IllegalArgumentException if what is out of range")
    static void promise14_throwsIfWhatIsOutOfRange(Check check) {
        CircuitDesk desk = Check.desk(Nets.pair(1, 9, 1));
        for (int what : new int[] {LEAST, -1, 7, 8, MOST}) {
            check.dueIllegalArgument("link(0, " + what + ")", () -> desk.link(0, what));
        }
        check.due("link(0, 0)", desk.link(0, 0), 0);
        check.due("link(0, 6)", desk.link(0, 6), 0);
    }
}
