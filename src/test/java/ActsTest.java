/** Promises 19 to 24: opening, closing, moving, aborting and offering. */
public final class ActsTest {
    private static final Check CHECK = new Check();
    private static final String SQUARE = "node 4;node 4;node 4;node 4;"
            + "link 0 1 20 2;link 1 3 20 3;link 0 2 20 1;link 2 3 20 1;";

    public static void main(String[] args) {
        open();
        openWithoutLabels();
        close();
        openAnew();
        move();
        moveReasons();
        moveBest();
        abort();
        offer();
        CHECK.end("ActsTest");
    }

    private static void open() {
        CircuitDesk desk = Check.desk("node 9;node 9;link 0 1 20 1;");
        CHECK.dueIllegalArgument("open(0, 0)", () -> desk.open(0, 0));
        CHECK.dueIllegalArgument("open(21, 0)", () -> desk.open(21, 0));
        CHECK.dueIllegalArgument("open(1, -1)", () -> desk.open(1, -1));
        CHECK.dueIllegalArgument("open(1, 10)", () -> desk.open(1, 10));
        CHECK.due("open without a draft", desk.open(1, 0), 3);
        desk.draft(0);
        CHECK.due("open with one node", desk.open(1, 0), 3);
        CHECK.due("the draft stays", desk.count(16), 1);
        desk.draft(1);
        CHECK.due("open", desk.open(20, 9), 0);
        CHECK.due("the draft is empty", desk.count(16), 0);
        int[] due = {0, 1, 20, 9, 0, 1, 0, 0, 0, 0, 0, 0, 0, 0, 0};
        for (int what = 0; what <= 14; what++) {
            CHECK.due("circuit(0, " + what + ")", desk.circuit(0, what), due[what]);
        }
        Check.draft(desk, 1, 0);
        CHECK.due("open without room", desk.open(1, 0), 5);
        CHECK.due("close", desk.close(0), 0);
        desk.setUp(0, false);
        CHECK.due("open on a link that is down", desk.open(1, 0), 5);
        desk.setUp(0, true);
        for (int i = 0; i < 8; i++) {
            Check.draft(desk, 0, 1);
            CHECK.due("open", desk.open(1, 0), 0);
            CHECK.due("its label", desk.way(i, false, 1, 2), i);
        }
        CHECK.due("a 9th circuit", desk.open(1, 0), 1);
        CHECK.dueIllegalArgument("a 9th circuit, open(0, 0)", () -> desk.open(0, 0));
        CHECK.due("circuits", desk.count(4), 8);
    }

    /** A way of which a node gets no label takes none; the earlier nodes give theirs up. */
    private static void openWithoutLabels() {
        CircuitDesk desk = Check.desk("node 1;node 3;node 1;link 0 1 20 1;link 1 2 20 1;set 0 0;"
                + "circuit 1 0 1 2;");
        Check.draft(desk, 0, 1, 2);
        CHECK.due("open", desk.open(1, 0), 6);
        CHECK.due("free labels of node 1", desk.node(1, 1), 3);
        CHECK.due("circuits", desk.count(4), 1);
        CHECK.due("the draft stays", desk.count(16), 3);
        CHECK.due("open without room comes first", desk.open(20, 0), 5);
        desk.set(0, 1);
        CHECK.due("open with a label that is lent", desk.open(1, 0), 0);
        CHECK.due("own label", desk.way(1, false, 1, 1), 1);
        CHECK.due("lowest of its own", desk.way(1, false, 1, 2), 0);
        CHECK.due("lent by node 1", desk.way(1, false, 2, 1), 1);
        CHECK.due("highest of the lender", desk.way(1, false, 2, 2), 2);
        CHECK.due("its entry is made", desk.label(1, 2, 3), 1);
        CHECK.due("no label at the first node", desk.way(1, false, 0, 2), -1);
    }

    private static void close() {
        CircuitDesk desk = Check.desk(SQUARE
                + "circuit 1 0 0 1;circuit 2 0 0 1 3;circuit 3 0 1 0;circuit 4 0 3 2;");
        CHECK.dueOutOfBounds("close(-1)", () -> desk.close(-1));
        CHECK.dueOutOfBounds("close(4)", () -> desk.close(4));
        desk.offer(2, 1);
        CHECK.due("close with a backlog", desk.close(2), 8);
        desk.run(1);
        CHECK.due("close with packets on their ways", desk.close(2), 8);
        CHECK.due("close", desk.close(0), 0);
        CHECK.due("circuits", desk.count(4), 3);
        CHECK.due("BANDs move up", desk.circuit(0, 2), 2);
        CHECK.due("BANDs move up", desk.circuit(1, 2), 3);
        CHECK.due("BANDs move up", desk.circuit(2, 2), 4);
        CHECK.due("the packet's circuit", desk.packet(0, 0), 1);
        CHECK.due("the label is free", desk.label(1, 0, 0), -1);
        CHECK.due("the label of the next one", desk.label(1, 1, 1), 0);
        CHECK.due("packets on their ways", desk.circuit(1, 13), 1);
        desk.run(2);
        CHECK.due("delivered", desk.circuit(1, 8), 1);
        CHECK.due("close when it is delivered", desk.close(1), 0);
        CHECK.due("the totals stay", desk.count(8), 1);
        CHECK.due("sent stay", desk.count(7), 1);
        CHECK.due("moveBest", desk.moveBest(0, -1), 0);
        desk.offer(0, 1);
        CHECK.due("close while it is moved", desk.close(0), 2);
        CHECK.due("close the last one", desk.close(1), 0);
        Check.draft(desk, 1, 3);
        CHECK.due("open again", desk.open(5, 0), 0);
        CHECK.due("a new circuit starts anew", desk.circuit(1, 7), 0);
    }

    /** A circuit that is opened behind one that was closed has nothing of it. */
    private static void openAnew() {
        CircuitDesk desk = Check.desk(SQUARE + "circuit 9 0 0 1 3;");
        desk.offer(0, 9);
        desk.run(3);
        desk.moveBest(0, -1);
        desk.run(desk.movedIn(0));
        CHECK.due("late ones of the first circuit", desk.circuit(0, 10), 2);
        desk.offer(0, 2);
        desk.run(1);
        desk.setUp(2, false);
        desk.run(1);
        CHECK.due("lost ones of the first circuit", desk.circuit(0, 9), 2);
        desk.setUp(2, true);
        CHECK.due("close", desk.close(0), 0);
        Check.draft(desk, 1, 3);
        CHECK.due("open", desk.open(2, 0), 0);
        int[] due = {1, 3, 2, 0, 0, 3, 0, 0, 0, 0, 0, 0, 0, 0, 0};
        for (int what = 0; what <= 14; what++) {
            CHECK.due("circuit(0, " + what + ") anew", desk.circuit(0, what), due[what]);
        }
        CHECK.dueD("mean delay anew", desk.meanDelay(0), -1.0);
        CHECK.due("no new way", desk.way(0, true, 1, 0), -1);
        CHECK.due("its way alone", desk.way(0, false, 2, 0), -1);
        desk.offer(0, 2);
        desk.run(5);
        CHECK.due("delivered", desk.circuit(0, 8), 2);
        CHECK.due("none is late", desk.circuit(0, 10), 0);
        CHECK.dueD("mean delay", desk.meanDelay(0), 3.0);
    }

    private static void move() {
        CircuitDesk desk = Check.desk(SQUARE + "circuit 9 0 0 1 3;");
        Check.draft(desk, 0, 2, 3);
        CHECK.due("move", desk.move(0), 0);
        CHECK.due("the draft is empty", desk.count(16), 0);
        CHECK.due("phase", desk.circuit(0, 4), 1);
        CHECK.due("entries to make", desk.circuit(0, 14), 2);
        CHECK.due("new way", desk.way(0, true, 1, 0), 2);
        CHECK.due("label of node 2", desk.way(0, true, 1, 2), 0);
        CHECK.due("second label of node 3", desk.way(0, true, 2, 2), 1);
        CHECK.due("no label of the first node", desk.way(0, true, 0, 1), -1);
        CHECK.due("behind the new way", desk.way(0, true, 3, 0), -1);
        CHECK.due("entry not made", desk.label(3, 1, 3), 0);
        CHECK.due("delay of the active way", desk.circuit(0, 5), 5);
        desk.run(1);
        CHECK.due("the last entry first", desk.label(3, 1, 3), 1);
        CHECK.due("the second one later", desk.label(2, 0, 3), 0);
        CHECK.due("entries to make", desk.circuit(0, 14), 1);
        desk.run(1);
        CHECK.due("the second one", desk.label(2, 0, 3), 1);
        CHECK.due("phase", desk.circuit(0, 4), 1);
        CHECK.due("entries to make", desk.circuit(0, 14), 0);
        desk.run(1);
        CHECK.due("phase", desk.circuit(0, 4), 2);
        CHECK.due("ticks to drain", desk.circuit(0, 12), 5);
        CHECK.due("delay of the active way", desk.circuit(0, 5), 2);
        CHECK.due("not held", desk.circuit(0, 11), 0);
        desk.run(4);
        CHECK.due("ticks to drain", desk.circuit(0, 12), 1);
        CHECK.due("phase", desk.circuit(0, 4), 2);
        desk.run(1);
        CHECK.due("ticks to drain", desk.circuit(0, 12), 0);
        CHECK.due("phase", desk.circuit(0, 4), 3);
        CHECK.due("old label there", desk.label(1, 0, 0), 1);
        desk.run(1);
        CHECK.due("old label given up", desk.label(1, 0, 0), -1);
        CHECK.due("NONE in the old way", desk.way(0, false, 1, 1), -1);
        CHECK.due("NONE in the old way", desk.way(0, false, 1, 2), -1);
        CHECK.due("the node stays", desk.way(0, false, 1, 0), 1);
        CHECK.due("the last label there", desk.way(0, false, 2, 2), 0);
        CHECK.due("still reserved", desk.link(0, 5), 9);
        CHECK.due("no move completed", desk.count(14), 0);
        desk.run(1);
        CHECK.due("phase", desk.circuit(0, 4), 0);
        CHECK.due("the way", desk.way(0, false, 1, 0), 2);
        CHECK.due("no new way", desk.way(0, true, 0, 0), -1);
        CHECK.due("not reserved", desk.link(0, 5), 0);
        CHECK.due("reserved", desk.link(3, 5), 9);
        CHECK.due("label of the way", desk.label(3, 1, 2), 0);
        CHECK.due("a move completed", desk.count(14), 1);
    }

    private static void moveReasons() {
        CircuitDesk desk = Check.desk("node 1;node 2;node 2;node 2;link 0 1 20 2;link 1 3 20 3;"
                + "link 0 2 20 1;link 2 3 5 1;link 1 2 20 1;circuit 9 0 0 1 3;");
        CHECK.dueOutOfBounds("move(-1)", () -> desk.move(-1));
        CHECK.dueOutOfBounds("move(1)", () -> desk.move(1));
        CHECK.due("move without a draft", desk.move(0), 3);
        Check.draft(desk, 0);
        CHECK.due("move with one node", desk.move(0), 3);
        Check.draft(desk, 0, 1);
        CHECK.due("move to another end", desk.move(0), 3);
        Check.draft(desk, 1, 3);
        CHECK.due("move from another end", desk.move(0), 3);
        Check.draft(desk, 3, 1, 0);
        CHECK.due("move the other way round", desk.move(0), 3);
        Check.draft(desk, 0, 1, 3);
        desk.setUp(1, false);
        CHECK.due("move to its way, of which a link is down", desk.move(0), 4);
        Check.draft(desk, 0, 2, 1, 3);
        CHECK.due("move to a link that is down", desk.move(0), 5);
        desk.setUp(1, true);
        Check.draft(desk, 0, 2, 3);
        CHECK.due("move without room", desk.move(0), 5);
        CHECK.due("the draft stays", desk.count(16), 3);
        Check.draft(desk, 0, 1);
        CHECK.due("open", desk.open(11, 0), 0);
        Check.draft(desk, 1, 3);
        CHECK.due("open", desk.open(1, 0), 0);
        desk.set(0, 0);
        Check.draft(desk, 0, 2, 1, 3);
        CHECK.due("move without a label", desk.move(0), 6);
        CHECK.due("its labels are free", desk.node(2, 1), 2);
        CHECK.due("phase", desk.circuit(0, 4), 0);
        CHECK.due("no new way", desk.way(0, true, 0, 0), -1);
        desk.set(0, 1);
        CHECK.due("room counts its own BAND once", desk.move(0), 0);
        CHECK.due("on a link of both", desk.link(1, 5), 10);
        CHECK.due("move again", desk.move(0), 2);
        CHECK.due("lent by node 0, the lowest of two", desk.way(0, true, 2, 1), 0);
        CHECK.due("lent by node 2", desk.way(0, true, 3, 1), 2);
    }

    private static void moveBest() {
        CircuitDesk desk = Check.desk("node 1;node 2;node 2;node 1;link 0 1 20 2;link 1 3 20 3;"
                + "link 0 2 20 1;link 2 3 20 1;set 0 0;circuit 11 0 0 1 3;");
        CHECK.dueOutOfBounds("moveBest(-1, -1)", () -> desk.moveBest(-1, -1));
        CHECK.dueOutOfBounds("moveBest(1, -1)", () -> desk.moveBest(1, -1));
        CHECK.dueOutOfBounds("moveBest(0, 4)", () -> desk.moveBest(0, 4));
        CHECK.dueOutOfBounds("moveBest(0, -2)", () -> desk.moveBest(0, -2));
        CHECK.dueOutOfBounds("canMove(0, 4)", () -> desk.canMove(0, 4));
        CHECK.dueOutOfBounds("canMove(0, -2)", () -> desk.canMove(0, -2));
        CHECK.dueOutOfBounds("canMove(1, 0)", () -> desk.canMove(1, 0));
        desk.draft(1);
        both(desk, 0, 2, 4);
        both(desk, 0, -1, 6);
        desk.set(0, 1);
        desk.setUp(2, false);
        both(desk, 0, -1, 4);
        both(desk, 0, 0, 3);
        desk.setUp(2, true);
        both(desk, 0, -1, 0);
        CHECK.due("the draft stays", desk.draftNode(0), 1);
        CHECK.due("the best way", desk.way(0, true, 1, 0), 2);
        CHECK.due("lent by node 1", desk.way(0, true, 2, 1), 1);
        both(desk, 0, -1, 2);
        both(desk, 0, 3, 2);
    }

    private static void both(CircuitDesk desk, int circuit, int link, int due) {
        int moved = desk.count(13);
        int free = desk.node(2, 1);
        String call = "(" + circuit + ", " + link + ")";
        CHECK.due("canMove" + call, desk.canMove(circuit, link), due);
        CHECK.due("nothing changes by canMove" + call, desk.count(13), moved);
        CHECK.due("no label is taken by canMove" + call, desk.node(2, 1), free);
        CHECK.due("moveBest" + call, desk.moveBest(circuit, link), due);
    }

    private static void abort() {
        CircuitDesk desk = Check.desk(SQUARE + "circuit 9 0 0 1 3;");
        CHECK.dueOutOfBounds("abort(-1)", () -> desk.abort(-1));
        CHECK.dueOutOfBounds("abort(1)", () -> desk.abort(1));
        CHECK.due("abort without a move", desk.abort(0), 7);
        desk.moveBest(0, -1);
        desk.run(2);
        CHECK.due("abort with all entries made", desk.abort(0), 0);
        CHECK.due("phase", desk.circuit(0, 4), 0);
        CHECK.due("free labels of node 2", desk.node(2, 1), 4);
        CHECK.due("free labels of node 3", desk.node(3, 1), 3);
        CHECK.due("no new way", desk.way(0, true, 0, 0), -1);
        CHECK.due("entries to make", desk.circuit(0, 14), 0);
        CHECK.due("nothing reserved", desk.link(2, 5), 0);
        CHECK.due("aborted", desk.count(15), 1);
        CHECK.due("moveBest again", desk.moveBest(0, -1), 0);
        CHECK.due("entries not made again", desk.label(3, 1, 3), 0);
        CHECK.due("abort at once", desk.abort(0), 0);
        CHECK.due("abort again", desk.abort(0), 7);
        desk.moveBest(0, -1);
        desk.run(3);
        CHECK.due("abort while it drains", desk.abort(0), 7);
        desk.run(5);
        CHECK.due("abort while it is cleared", desk.abort(0), 7);
        CHECK.due("aborted", desk.count(15), 2);
    }

    private static void offer() {
        CircuitDesk desk = Check.desk(SQUARE + "circuit 9 0 0 1 3;");
        CHECK.dueOutOfBounds("offer(-1, 1)", () -> desk.offer(-1, 1));
        CHECK.dueOutOfBounds("offer(1, 0)", () -> desk.offer(1, 0));
        CHECK.dueIllegalArgument("offer(0, 0)", () -> desk.offer(0, 0));
        CHECK.dueIllegalArgument("offer(0, 10)", () -> desk.offer(0, 10));
        CHECK.due("offer", desk.offer(0, 5), 5);
        CHECK.due("offer", desk.offer(0, 7), 9);
        CHECK.due("dropped", desk.count(10), 3);
        CHECK.due("backlog", desk.circuit(0, 6), 9);
        CHECK.due("nothing is sent yet", desk.count(7), 0);
    }
}
