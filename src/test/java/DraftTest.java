/** Promises 15 to 18: drafts and best ways. */
public final class DraftTest {
    private static final Check CHECK = new Check();

    public static void main(String[] args) {
        draft();
        draftBest();
        ties();
        atMostSixNodes();
        room();
        CHECK.end("DraftTest");
    }

    private static void draft() {
        CircuitDesk desk = Check.desk("node 1;node 1;node 1;node 1;node 1;node 1;node 1;node 1;"
                + "link 0 1 9 1;link 2 1 9 1;link 2 3 9 1;link 3 4 9 1;link 4 5 9 1;link 5 6 9 1;");
        CHECK.dueOutOfBounds("draft(-1)", () -> desk.draft(-1));
        CHECK.dueOutOfBounds("draft(8)", () -> desk.draft(8));
        CHECK.due("clearDraft of an empty one", desk.clearDraft(), 0);
        CHECK.due("a first node without links", desk.draft(7), 1);
        CHECK.dueIllegalState("draft without a link", () -> desk.draft(0));
        CHECK.due("clearDraft", desk.clearDraft(), 1);
        for (int i = 0; i < 6; i++) {
            CHECK.due("draft", desk.draft(i), i + 1);
        }
        CHECK.dueIllegalState("a 7th node", () -> desk.draft(6));
        CHECK.dueOutOfBounds("a 7th node that is none", () -> desk.draft(8));
        CHECK.due("nodes of the draft", desk.count(16), 6);
        for (int i = 0; i < 6; i++) {
            CHECK.due("draftNode", desk.draftNode(i), i);
        }
        CHECK.due("draftNode(6)", desk.draftNode(6), -1);
        CHECK.due("draftNode of the greatest int", desk.draftNode(Integer.MAX_VALUE), -1);
        CHECK.dueOutOfBounds("draftNode(-1)", () -> desk.draftNode(-1));
        CHECK.due("clearDraft", desk.clearDraft(), 6);
        CHECK.due("draftNode(0)", desk.draftNode(0), -1);
        desk.draft(2);
        desk.draft(1);
        CHECK.dueIllegalState("a node that is there", () -> desk.draft(2));
        CHECK.dueIllegalState("the last node", () -> desk.draft(1));
        desk.setUp(0, false);
        CHECK.due("a link that is down is a link", desk.draft(0), 3);
    }

    private static void draftBest() {
        CircuitDesk desk = Check.desk("node 2;node 2;node 2;node 2;"
                + "link 0 1 10 2;link 1 2 10 3;link 0 2 10 9;");
        CHECK.dueOutOfBounds("draftBest(-1, 0, 1)", () -> desk.draftBest(-1, 0, 1));
        CHECK.dueOutOfBounds("draftBest(0, 4, 0)", () -> desk.draftBest(0, 4, 0));
        CHECK.dueIllegalArgument("draftBest(0, 0, 1)", () -> desk.draftBest(0, 0, 1));
        CHECK.dueIllegalArgument("draftBest(0, 1, 0)", () -> desk.draftBest(0, 1, 0));
        CHECK.dueIllegalArgument("draftBest(0, 1, 21)", () -> desk.draftBest(0, 1, 21));
        desk.draft(3);
        CHECK.due("draftBest without a way", desk.draftBest(0, 3, 1), -1);
        CHECK.due("the draft stays", desk.draftNode(0), 3);
        CHECK.due("draftBest", desk.draftBest(2, 0, 10), 3);
        CHECK.due("first", desk.draftNode(0), 2);
        CHECK.due("second", desk.draftNode(1), 1);
        CHECK.due("third", desk.draftNode(2), 0);
        CHECK.due("fourth", desk.draftNode(3), -1);
        CHECK.due("draftBest with too much of a BAND", desk.draftBest(0, 2, 11), -1);
        desk.setUp(1, false);
        CHECK.due("draftBest round a link that is down", desk.draftBest(0, 2, 10), 2);
        CHECK.due("open", desk.open(1, 0), 0);
    }

    /** Least delay, then fewest nodes, then lexicographic. */
    private static void ties() {
        CircuitDesk desk = Check.desk("node 2;node 2;node 2;node 2;node 2;"
                + "link 0 3 10 2;link 3 4 10 2;link 0 2 10 1;link 2 4 10 3;link 0 1 10 1;"
                + "link 1 2 10 1;");
        CHECK.due("of three ways of delay 4 or 5", desk.draftBest(0, 4, 1), 3);
        CHECK.due("the lowest of two", desk.draftNode(1), 2);
        desk.addLink(1, 4, 10, 3);
        desk.draftBest(0, 4, 1);
        CHECK.due("the lowest of three", desk.draftNode(1), 1);
        desk.addLink(0, 4, 10, 4);
        CHECK.due("fewer nodes", desk.draftBest(0, 4, 1), 2);
        CircuitDesk other = Check.desk("node 2;node 2;node 2;node 2;"
                + "link 0 3 10 9;link 0 1 10 3;link 1 2 10 3;link 2 3 10 2;");
        CHECK.due("less delay before fewer nodes", other.draftBest(0, 3, 1), 4);
    }

    private static void atMostSixNodes() {
        String row = "node 2;node 2;node 2;node 2;node 2;node 2;node 2;link 0 1 9 1;link 1 2 9 1;"
                + "link 2 3 9 1;link 3 4 9 1;link 4 5 9 1;link 5 6 9 1;";
        CircuitDesk desk = Check.desk(row);
        CHECK.due("a way of six nodes", desk.draftBest(0, 5, 1), 6);
        CHECK.due("no way of seven", desk.draftBest(0, 6, 1), -1);
        CircuitDesk longer = Check.desk(row + "link 0 5 9 9;");
        CHECK.due("a short way of more delay", longer.draftBest(0, 6, 1), 3);
    }

    private static void room() {
        CircuitDesk desk = Check.desk("node 4;node 4;link 0 1 10 1;circuit 6 0 0 1;");
        CHECK.due("room for the rest", desk.draftBest(0, 1, 4), 2);
        CHECK.due("no room for more", desk.draftBest(0, 1, 5), -1);
        CHECK.due("the draft stays", desk.count(16), 2);
    }
}
