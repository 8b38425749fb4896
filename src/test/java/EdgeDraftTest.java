import java.io.IOException;

/** The promises 15 to 18, sentence by sentence. */
public final class EdgeDraftTest {
    private static final int LEAST = Integer.MIN_VALUE;
    private static final int MOST = Integer.MAX_VALUE;

    public static void main(String[] args) throws IOException {
        Edges.run(EdgeDraftTest.class, args);
    }

    // ---- Promise 15

    @Sentence(in = "Promise 15", says = "Appends a node to the draft.")
    static void promise15_appendsANode(Check check) {
        CircuitDesk desk = Check.desk(Nets.triangle(1, 9, 1, 1, 1));
        desk.draft(2);
        desk.draft(0);
        check.due("the first one stays", desk.draftNode(0), 2);
        check.due("the second one", desk.draftNode(1), 0);
        check.due("none behind it", desk.draftNode(2), -1);
    }

    @Sentence(in = "Promise 15", says = "Returns the number of nodes of the draft then.")
    static void promise15_returnsTheNumberOfNodes(Check check) {
        CircuitDesk desk = Check.desk(Nets.row(10, 1, 9, 1));
        for (int i = 1; i <= 6; i++) {
            check.due("draft", desk.draft(10 - i), i);
        }
        desk.clearDraft();
        check.due("draft of an empty one", desk.draft(0), 1);
    }

    @Sentence(in = "Promise 15", says = {"node: a node",
        "Throws IndexOutOfBoundsException if there is no such node"})
    static void promise15_throwsIfThereIsNoSuchNode(Check check) {
        CircuitDesk none = new CircuitDesk();
        check.dueOutOfBounds("draft(0) without nodes", () -> none.draft(0));
        CircuitDesk desk = Nets.full();
        for (int node : new int[] {LEAST, -1, 10, MOST}) {
            check.dueOutOfBounds("draft(" + node + ")", () -> desk.draft(node));
        }
        check.due("draft(9)", desk.draft(9), 1);
        desk.clearDraft();
        check.due("draft(0)", desk.draft(0), 1);
        check.dueOutOfBounds("draft(-1) as a second one", () -> desk.draft(-1));
        check.dueOutOfBounds("draft(10) as a second one", () -> desk.draft(10));
    }

    @Sentence(in = "Promise 15", says = "Throws IllegalStateException if the draft has 6 nodes")
    static void promise15_throwsIfTheDraftHas6Nodes(Check check) {
        CircuitDesk desk = Check.desk(Nets.row(10, 1, 9, 1));
        Check.draft(desk, 2, 3, 4, 5, 6);
        check.due("with 5 nodes", desk.draft(7), 6);
        check.dueIllegalState("with 6 nodes", () -> desk.draft(8));
        check.due("nodes of the draft", desk.count(16), 6);
        check.due("the last one", desk.draftNode(5), 7);
    }

    @Sentence(in = "Promise 15", says = "or the node already")
    static void promise15_throwsIfTheDraftHasTheNode(Check check) {
        CircuitDesk desk = Check.desk(Nets.row(5, 1, 9, 1) + "link 0 4 9 1;link 0 3 9 1;");
        Check.draft(desk, 0);
        check.dueIllegalState("the only one", () -> desk.draft(0));
        Check.draft(desk, 0, 1, 2, 3);
        check.dueIllegalState("the first one, with a link to it", () -> desk.draft(0));
        check.dueIllegalState("the one before, with a link to it", () -> desk.draft(2));
        check.dueIllegalState("the last one", () -> desk.draft(3));
        check.due("another one", desk.draft(4), 5);
        desk.clearDraft();
        check.due("one that it had before it was emptied", desk.draft(0), 1);
    }

    @Sentence(in = "Promise 15", says = "or the node has no link to its last one")
    static void promise15_throwsIfThereIsNoLinkToTheLastOne(Check check) {
        CircuitDesk desk = Check.desk(Nets.row(3, 1, 9, 1) + "node 1;link 3 0 9 1;");
        Check.draft(desk, 0);
        check.dueIllegalState("no link", () -> desk.draft(2));
        check.due("a link", desk.draft(1), 2);
        check.dueIllegalState("a link to another one of the draft", () -> desk.draft(3));
        desk.setUp(1, false);
        check.due("a link that is down is one", desk.draft(2), 3);
        Check.draft(desk, 0);
        check.due("a link whose other node is the last one", desk.draft(3), 2);
        desk.clearDraft();
        check.due("the first one needs no link", desk.draft(2), 1);
    }

    // ---- Promise 16

    @Sentence(in = "Promise 16", says = {"Empties the draft.",
        "Returns the number of nodes that it had."})
    static void promise16_emptiesTheDraft(Check check) {
        CircuitDesk desk = Check.desk(Nets.row(6, 1, 9, 1));
        for (int nodes = 0; nodes <= 6; nodes++) {
            for (int n = 0; n < nodes; n++) {
                desk.draft(n);
            }
            check.due("clearDraft of " + nodes, desk.clearDraft(), nodes);
            check.due("clearDraft again", desk.clearDraft(), 0);
            check.due("nodes of the draft", desk.count(16), 0);
            check.due("its first node", desk.draftNode(0), -1);
        }
    }

    // ---- Promise 17

    @Sentence(in = "Promise 17", says = "Makes the best way the draft, in place of what it had.")
    static void promise17_inPlaceOfWhatItHad(Check check) {
        CircuitDesk desk = Check.desk(Nets.row(6, 1, 9, 1));
        Check.draft(desk, 0, 1, 2, 3, 4, 5);
        check.due("2 nodes in place of 6", desk.draftBest(4, 3, 1), 2);
        check.due("the first one", desk.draftNode(0), 4);
        check.due("the last one", desk.draftNode(1), 3);
        check.due("none behind it", desk.draftNode(2), -1);
        check.due("6 nodes in place of 2", desk.draftBest(0, 5, 1), 6);
        check.due("the last one", desk.draftNode(5), 5);
        check.dueIllegalState("a 7th node", () -> desk.draft(4));
        check.due("open along it", desk.open(1, 0), 0);
    }

    @Sentence(in = "Promise 17", says = "Returns the number of its nodes; NONE if there is no such"
            + " way (the draft stays).")
    static void promise17_returnsTheNumberOfItsNodesOrNone(Check check) {
        CircuitDesk desk = Check.desk(Nets.row(7, 1, 9, 1));
        for (int last = 1; last <= 5; last++) {
            check.due("draftBest(0, " + last + ", 9)", desk.draftBest(0, last, 9), last + 1);
        }
        check.due("7 nodes", desk.draftBest(0, 6, 9), -1);
        check.due("no room", desk.draftBest(0, 1, 10), -1);
        desk.setUp(0, false);
        check.due("a link is down", desk.draftBest(0, 1, 9), -1);
        check.due("the draft stays", desk.count(16), 6);
        check.due("its last node", desk.draftNode(5), 5);
        desk.clearDraft();
        check.due("no way", desk.draftBest(1, 0, 9), -1);
        check.due("an empty draft stays", desk.count(16), 0);
        CircuitDesk apart = Check.desk("node 1;node 1;");
        check.due("without links", apart.draftBest(0, 1, 1), -1);
    }

    @Sentence(in = "Promise 17", says = "band: 1 to 20")
    static void promise17_band1To20(Check check) {
        CircuitDesk desk = Check.desk(Nets.pair(1, 20, 1));
        check.dueIllegalArgument("BAND 0", () -> desk.draftBest(0, 1, 0));
        check.due("BAND 1", desk.draftBest(0, 1, 1), 2);
        check.due("BAND 20", desk.draftBest(0, 1, 20), 2);
        check.dueIllegalArgument("BAND 21", () -> desk.draftBest(0, 1, 21));
    }

    @Sentence(in = "Promise 17", says = {"from: a node", "to: another node",
        "Throws IndexOutOfBoundsException if there is no such node"})
    static void promise17_throwsIfThereIsNoSuchNode(Check check) {
        CircuitDesk desk = Check.desk(Nets.row(3, 1, 9, 1));
        for (int node : new int[] {LEAST, -1, 3, 10, MOST}) {
            check.dueOutOfBounds("draftBest(" + node + ", 0)", () -> desk.draftBest(node, 0, 1));
            check.dueOutOfBounds("draftBest(0, " + node + ")", () -> desk.draftBest(0, node, 1));
        }
        check.due("draftBest(0, 2)", desk.draftBest(0, 2, 1), 3);
        check.due("draftBest(2, 0)", desk.draftBest(2, 0, 1), 3);
    }

    @Sentence(in = "Promise 17", says = "Throws IllegalArgumentException if both nodes are the"
            + " same, or band is out of range")
    static void promise17_throwsIfAnArgumentIsOutOfRange(Check check) {
        CircuitDesk desk = Check.desk(Nets.pair(1, 99, 1));
        check.dueIllegalArgument("draftBest(0, 0)", () -> desk.draftBest(0, 0, 1));
        check.dueIllegalArgument("draftBest(1, 1)", () -> desk.draftBest(1, 1, 1));
        for (int band : new int[] {LEAST, -1, 0, 21, MOST}) {
            check.dueIllegalArgument("BAND " + band, () -> desk.draftBest(0, 1, band));
        }
        check.due("the draft stays", desk.count(16), 0);
    }

    // ---- Promise 18

    @Sentence(in = "Promise 18", says = {"index: 0 for the first node of the draft",
        "Returns the node at this place; NONE if the draft has not so many."})
    static void promise18_theNodeAtThisPlaceOrNone(Check check) {
        CircuitDesk desk = Check.desk(Nets.row(7, 1, 9, 1));
        for (int nodes = 0; nodes <= 6; nodes++) {
            for (int index = 0; index < nodes; index++) {
                check.due("draftNode(" + index + ") of " + nodes, desk.draftNode(index), 6 - index);
            }
            check.due("the first place behind it", desk.draftNode(nodes), -1);
            check.due("the next place", desk.draftNode(nodes + 1), -1);
            if (nodes < 6) {
                desk.draft(6 - nodes);
            }
        }
        check.due("draftNode of the greatest int", desk.draftNode(MOST), -1);
    }

    @Sentence(in = "Promise 18", says = "Throws IndexOutOfBoundsException if index is negative")
    static void promise18_throwsIfIndexIsNegative(Check check) {
        CircuitDesk desk = Check.desk("node 1;");
        desk.draft(0);
        check.dueOutOfBounds("draftNode(-1)", () -> desk.draftNode(-1));
        check.dueOutOfBounds("draftNode of the least int", () -> desk.draftNode(LEAST));
        check.due("draftNode(0)", desk.draftNode(0), 0);
    }
}
