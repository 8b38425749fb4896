import java.io.IOException;

/** BEST WAYS and REASONS, sentence by sentence. */
public final class EdgeWaysTest {
    private interface Act {
        int done(CircuitDesk desk);
    }

    private interface Start {
        void make(CircuitDesk desk);
    }

    public static void main(String[] args) throws IOException {
        Edges.run(EdgeWaysTest.class, args);
    }

    private static void best(Check check, CircuitDesk desk, int from, int to, int... due) {
        int length = desk.draftBest(from, to, 1);
        check.due("draftBest(" + from + ", " + to + ", 1)", length, due.length);
        for (int i = 0; i < due.length; i++) {
            check.due("draftNode(" + i + ")", desk.draftNode(i), due[i]);
        }
        check.due("draftNode behind it", desk.draftNode(due.length), -1);
    }

    // ---- BEST WAYS

    @Sentence(in = "BEST WAYS", says = "The best way from a node to another one for a circuit or a"
            + " BAND is, of all ways of which each link has room, the one with the least delay")
    static void promise17_theLeastDelay(Check check) {
        String net = "node 1;node 1;node 1;node 1;link 0 3 9 9;link 0 1 9 3;link 1 2 9 3;"
                + "link 2 3 9 ";
        best(check, Check.desk(net + "2;"), 0, 3, 0, 1, 2, 3);
        best(check, Check.desk(net + "4;"), 0, 3, 0, 3);
        CircuitDesk down = Check.desk(net + "2;");
        down.setUp(1, false);
        best(check, down, 0, 3, 0, 3);
        down.setUp(1, true);
        best(check, down, 3, 0, 3, 2, 1, 0);
    }

    @Sentence(in = "BEST WAYS", says = "of all ways of which each link has room")
    static void promise17_eachLinkHasRoomUpToTheCapacity(Check check) {
        CircuitDesk desk = Check.desk(Nets.triangle(4, 20, 1, 1, 9) + "circuit 15 0 1 2;");
        check.due("BAND 5 of the 5 that are left", desk.draftBest(0, 2, 5), 3);
        check.due("BAND 6 of the 5 that are left", desk.draftBest(0, 2, 6), 2);
        CircuitDesk one = Check.desk(Nets.pair(4, 20, 1) + "circuit 1 0 0 1;");
        check.due("BAND 19 of 19", one.draftBest(0, 1, 19), 2);
        check.due("BAND 20 of 19", one.draftBest(0, 1, 20), -1);
    }

    @Sentence(in = "BEST WAYS", says = "for a circuit or a BAND")
    static void promise22_forACircuitItsOwnBandCountsOnce(Check check) {
        CircuitDesk desk = Check.desk(Nets.triangle(4, 20, 1, 1, 9) + "circuit 20 0 0 1 2;");
        check.due("its own way has room for it", desk.canMove(0, -1), 4);
        check.due("but none for another BAND", desk.draftBest(0, 2, 1), 2);
    }

    @Sentence(in = "BEST WAYS", says = "of several the one with the fewest nodes")
    static void promise17_ofSeveralTheFewestNodes(Check check) {
        String net = "node 1;node 1;node 1;node 1;link 0 1 9 1;link 1 2 9 1;link 2 3 9 1;";
        best(check, Check.desk(net + "link 0 3 9 3;"), 0, 3, 0, 3);
        best(check, Check.desk(net + "link 1 3 9 2;"), 0, 3, 0, 1, 3);
        best(check, Check.desk(net + "link 0 3 9 4;"), 0, 3, 0, 1, 2, 3);
        // 0, 2, 3 has fewer nodes and is lexicographically greater than 0, 1, 2, 3
        best(check, Check.desk(net + "link 0 2 9 2;"), 0, 3, 0, 2, 3);
        // 0, 1, 3 is lexicographically lower than 0, 2, 4, 3, too
        best(check, Check.desk("node 1;node 1;node 1;node 1;node 1;link 0 1 9 2;link 1 3 9 2;"
                + "link 0 2 9 1;link 2 4 9 1;link 4 3 9 2;"), 0, 3, 0, 1, 3);
    }

    @Sentence(in = "BEST WAYS", says = "then the lexicographically lowest one.")
    static void promise17_thenTheLexicographicallyLowest(Check check) {
        String nodes = "node 1;node 1;node 1;node 1;node 1;node 1;";
        best(check, Check.desk(nodes + "link 0 4 9 1;link 4 5 9 1;link 0 1 9 1;link 1 5 9 1;"
                + "link 0 3 9 1;link 3 5 9 1;"), 0, 5, 0, 1, 5);
        // the same first nodes, then the lower one; the links are in the other order
        best(check, Check.desk(nodes + "link 0 1 9 1;link 1 4 9 1;link 4 5 9 1;link 1 3 9 1;"
                + "link 3 5 9 1;"), 0, 5, 0, 1, 3, 5);
        best(check, Check.desk(nodes + "link 0 1 9 1;link 1 4 9 1;link 4 5 9 1;link 0 2 9 1;"
                + "link 2 3 9 1;link 3 5 9 1;"), 0, 5, 0, 1, 4, 5);
        best(check, Check.desk(nodes + "link 5 1 9 1;link 1 4 9 1;link 4 0 9 1;link 5 2 9 1;"
                + "link 2 3 9 1;link 3 0 9 1;"), 5, 0, 5, 1, 4, 0);
    }

    @Sentence(in = "BEST WAYS", says = "of all ways")
    static void promise17_ofAllWaysOfUpTo6Nodes(Check check) {
        CircuitDesk desk = Check.desk(Nets.row(7, 1, 9, 1));
        best(check, desk, 0, 1, 0, 1);
        best(check, desk, 0, 5, 0, 1, 2, 3, 4, 5);
        best(check, desk, 6, 1, 6, 5, 4, 3, 2, 1);
        check.due("a row of 7 nodes is no way", desk.draftBest(0, 6, 1), -1);
        desk.addLink(0, 2, 9, 9);
        best(check, desk, 0, 6, 0, 2, 3, 4, 5, 6);
        best(check, desk, 0, 5, 0, 1, 2, 3, 4, 5);
    }

    // ---- REASONS

    /**
     * The nodes 1 and 2 have no free label, and BORROW is 0. Circuit 0 from 0 to 2 builds a new
     * way over link 2; circuit 1 from 1 to 0 is not moved; both have packets.
     */
    private static CircuitDesk crowded() {
        CircuitDesk desk = Check.desk("node 2;node 1;node 2;link 0 1 20 2;link 1 2 20 3;"
                + "link 0 2 20 1;set 0 0;circuit 4 1 0 1 2;circuit 3 1 1 0;");
        desk.run(4);
        Nets.move(desk, 0, 0, 2);
        return desk;
    }

    private static void nothing(CircuitDesk desk) {
        desk.count(0);
    }

    @Sentence(in = "REASONS",
            says = "An act is done, or refused with a reason (nothing changes then)")
    static void promise19_aRefusedOpenOrCloseChangesNothing(Check check) {
        refused(check, "open without a draft", 3, EdgeWaysTest::nothing, desk -> desk.open(1, 1));
        refused(check, "open with one node", 3, desk -> Check.draft(desk, 0),
                desk -> desk.open(1, 1));
        refused(check, "open without room", 5, desk -> Check.draft(desk, 0, 2),
                desk -> desk.open(17, 1));
        refused(check, "open without a label", 6, desk -> Check.draft(desk, 2, 0, 1),
                desk -> desk.open(1, 1));
        refused(check, "close while it is moved", 2, EdgeWaysTest::nothing, desk -> desk.close(0));
        refused(check, "close with packets", 8, EdgeWaysTest::nothing, desk -> desk.close(1));
        CircuitDesk desk = Nets.circuits(8);
        CircuitDesk twin = Nets.circuits(8);
        Check.draft(desk, 0, 1);
        Check.draft(twin, 0, 1);
        check.due("open, a 9th", desk.open(1, 1), 1);
        check.due("circuits", desk.count(4), 8);
        check.due("the draft stays", desk.count(16), twin.count(16));
        check.due("free labels", desk.node(1, 1), twin.node(1, 1));
    }

    @Sentence(in = "REASONS", says = "refused with a reason (nothing changes then)")
    static void promise21_aRefusedMoveOrAbortChangesNothing(Check check) {
        Start withDraft = desk -> Check.draft(desk, 1, 2, 0);
        Start withoutLink = desk -> {
            desk.setUp(2, false);
            Check.draft(desk, 1, 2, 0);
        };
        refused(check, "move while it is moved", 2, withDraft, desk -> desk.move(0));
        refused(check, "move without a draft", 3, EdgeWaysTest::nothing, desk -> desk.move(1));
        refused(check, "move to other ends", 3, desk -> Check.draft(desk, 1, 2),
                desk -> desk.move(1));
        refused(check, "move to its way", 4, desk -> Check.draft(desk, 1, 0),
                desk -> desk.move(1));
        refused(check, "move without room", 5, withoutLink, desk -> desk.move(1));
        refused(check, "move without a label", 6, withDraft, desk -> desk.move(1));
        refused(check, "moveBest while it is moved", 2, withDraft, desk -> desk.moveBest(0, -1));
        refused(check, "moveBest without a way", 3, withoutLink, desk -> desk.moveBest(1, 0));
        refused(check, "moveBest to its way", 4, withDraft, desk -> desk.moveBest(1, -1));
        refused(check, "moveBest without a label", 6, withDraft, desk -> desk.moveBest(1, 0));
        refused(check, "abort of one that is not moved", 7, withDraft, desk -> desk.abort(1));
        refused(check, "abort of one that has switched over", 7, desk -> desk.run(2),
                desk -> desk.abort(0));
    }

    /** Holds a desk on which the act was refused against one without it. */
    private static void refused(Check check, String name, int due, Start start, Act act) {
        CircuitDesk desk = crowded();
        CircuitDesk twin = crowded();
        start.make(desk);
        start.make(twin);
        check.due(name, act.done(desk), due);
        check.same(name + " changes something", View.withHidden(desk), View.withHidden(twin));
    }

    @Sentence(in = "REASONS", says = {"of several reasons the first one is told",
        "1 there are 8 circuits"})
    static void promise19_reason1ComesFirst(Check check) {
        CircuitDesk desk = Nets.circuits(8);
        check.due("8 circuits, no draft (1, 3)", desk.open(1, 0), 1);
        check.due("8 circuits, no room (1, 5)", Nets.open(desk, 20, 1, 0), 1);
        desk.setUp(0, false);
        check.due("8 circuits, a link is down (1, 5)", Nets.open(desk, 1, 0, 1), 1);
        CircuitDesk seven = Nets.circuits(7);
        check.due("7 circuits, no draft", seven.open(1, 0), 3);
        check.due("7 circuits", Nets.open(seven, 1, 0, 1), 0);
    }

    @Sentence(in = "REASONS", says = {"of several reasons the first one is told",
        "2 the circuit is moved already"})
    static void promise20_reason2ComesBeforeOthers(Check check) {
        CircuitDesk desk = crowded();
        check.due("moved, no draft (2, 3)", desk.move(0), 2);
        check.due("moved, its own way (2, 4)", Nets.move(desk, 0, 0, 1, 2), 2);
        check.due("moved, packets (2, 8)", desk.close(0), 2);
        desk.setUp(2, false);
        check.due("moved, a link is down (2, 5)", Nets.move(desk, 0, 0, 2), 2);
        check.due("moved, no way (2, 3)", desk.moveBest(0, 1), 2);
        check.due("not moved, no way", desk.moveBest(1, 0), 3);
        for (int left = desk.movedIn(0); left > 0; left--) {
            check.due("moved with " + left + " left", desk.moveBest(0, 1), 2);
            desk.run(1);
        }
        desk.setUp(2, true);
        check.due("not moved with none left", Nets.move(desk, 0, 0, 1, 2), 0);
    }

    @Sentence(in = "REASONS", says = "3 there is no way (draft or best way), or it has not the ends"
            + " of the circuit")
    static void promise21_reason3NoWayOrNotItsEnds(Check check) {
        CircuitDesk desk = Check.desk(Nets.row(4, 4, 20, 1) + "link 0 3 20 9;link 0 2 20 9;"
                + "circuit 1 0 0 1 2;");
        check.due("open with 0 nodes", desk.open(1, 0), 3);
        check.due("move with 0 nodes", desk.move(0), 3);
        check.due("open with 1 node", Nets.open(desk, 1, 0), 3);
        check.due("move with 1 node, its first one", Nets.move(desk, 0, 0), 3);
        check.due("move with 1 node, its last one", Nets.move(desk, 0, 2), 3);
        check.due("move with another last node", Nets.move(desk, 0, 0, 3), 3);
        check.due("move with another first node", Nets.move(desk, 0, 3, 2), 3);
        check.due("move with its ends the other way round", Nets.move(desk, 0, 2, 0), 3);
        check.due("move to a part of its way", Nets.move(desk, 0, 0, 1), 3);
        check.due("move to more than its way", Nets.move(desk, 0, 0, 1, 2, 3), 3);
        desk.setUp(4, false);
        check.due("another last node, a link is down (3, 5)", Nets.move(desk, 0, 3, 0, 2), 3);
        desk.setUp(0, false);
        desk.setUp(3, false);
        check.due("no best way", desk.moveBest(0, -1), 3);
        desk.setUp(4, true);
        check.due("no best way without link 4", desk.moveBest(0, 4), 3);
        check.due("its ends: with 2 nodes", Nets.move(desk, 0, 0, 2), 0);
    }

    @Sentence(in = "REASONS", says = "4 the new way is the way of the circuit")
    static void promise21_reason4TheNewWayIsItsWay(Check check) {
        CircuitDesk desk = Check.desk(Nets.row(4, 1, 20, 1) + "link 1 3 20 9;"
                + "circuit 1 0 0 1 2 3;set 0 0;");
        check.due("the same nodes", Nets.move(desk, 0, 0, 1, 2, 3), 4);
        check.due("its best way", desk.moveBest(0, -1), 4);
        check.due("no label either (4, 6)", desk.canMove(0, 3), 4);
        desk.setUp(1, false);
        check.due("a link is down (4, 5)", Nets.move(desk, 0, 0, 1, 2, 3), 4);
        check.due("one node less", Nets.move(desk, 0, 0, 1, 3), 6);
        desk.set(0, 1);
        // node 0 lends to node 1; node 3 finds no neighbour with a free label
        check.due("one node less", Nets.move(desk, 0, 0, 1, 3), 6);
        CircuitDesk wide = Check.desk(Nets.row(4, 2, 20, 1) + "link 1 3 20 9;link 0 2 20 9;"
                + "circuit 1 0 0 1 3;");
        check.due("the same length and another node", Nets.move(wide, 0, 0, 2, 3), 0);
        CircuitDesk longer = Check.desk(Nets.row(4, 2, 20, 1) + "link 1 3 20 9;"
                + "circuit 1 0 0 1 3;");
        check.due("one node more", Nets.move(longer, 0, 0, 1, 2, 3), 0);
    }

    @Sentence(in = "REASONS", says = "5 a link has no room")
    static void promise21_reason5ALinkHasNoRoom(Check check) {
        CircuitDesk desk = Check.desk(Nets.triangle(1, 20, 1, 1, 1) + "circuit 5 0 0 2;"
                + "circuit 15 0 1 2;set 0 0;");
        check.due("the last link, down to 0 left, no label (5, 6)", Nets.open(desk, 6, 0, 1, 2), 5);
        check.due("room, no label", Nets.open(desk, 5, 0, 1, 2), 6);
        CircuitDesk first = Check.desk(Nets.triangle(4, 20, 1, 1, 1) + "circuit 5 0 0 2;"
                + "circuit 16 0 0 1;");
        check.due("the first link", Nets.move(first, 0, 0, 1, 2), 5);
        first.close(1);
        check.due("room on it", Nets.move(first, 0, 0, 1, 2), 0);
        CircuitDesk down = Check.desk(Nets.triangle(4, 20, 1, 1, 1) + "circuit 5 0 0 2;");
        down.setUp(1, false);
        check.due("the last link is down", Nets.move(down, 0, 0, 1, 2), 5);
    }

    @Sentence(in = "REASONS", says = "6 a node gets no label")
    static void promise21_reason6ANodeGetsNoLabel(Check check) {
        String net = Nets.triangle(2, 20, 1, 1, 1) + "set 0 0;";
        CircuitDesk last = Check.desk(net + "circuit 1 0 0 2;circuit 1 0 0 2;");
        check.due("the last node: open", Nets.open(last, 1, 0, 1, 2), 6);
        check.due("the last node: move", Nets.move(last, 0, 0, 1, 2), 6);
        check.due("the last node: moveBest", last.moveBest(0, 2), 6);
        check.due("node 1 gave its label up again", last.node(1, 1), 2);
        last.close(1);
        check.due("a label is free: move", Nets.move(last, 0, 0, 1, 2), 0);
        CircuitDesk second = Check.desk(net + "circuit 1 0 0 1;circuit 1 0 0 1;circuit 1 0 0 2;");
        check.due("the second node: move", Nets.move(second, 2, 0, 1, 2), 6);
        second.close(0);
        check.due("a label is free: move", Nets.move(second, 1, 0, 1, 2), 0);
    }

    @Sentence(in = "REASONS", says = "7 the circuit is not moved, or has switched over")
    static void promise23_reason7NotMovedOrSwitchedOver(Check check) {
        CircuitDesk desk = crowded();
        check.due("not moved", desk.abort(1), 7);
        check.due("all is to be made", desk.circuit(0, 14), 1);
        desk.run(1);
        check.due("all is made", desk.circuit(0, 14), 0);
        desk.save(0);
        check.due("not switched over yet", desk.abort(0), 0);
        check.due("not moved any more", desk.abort(0), 7);
        desk.restore(0);
        desk.run(1);
        check.due("switched over", desk.abort(0), 7);
        desk.run(desk.movedIn(0) - 1);
        check.due("in the last tick", desk.abort(0), 7);
        desk.run(1);
        check.due("moved", desk.abort(0), 7);
    }

    @Sentence(in = "REASONS",
            says = "8 packets of the circuit are on their ways, or in its backlog")
    static void promise20_reason8PacketsOnTheirWaysOrInTheBacklog(Check check) {
        CircuitDesk desk = Check.desk(Nets.pair(4, 20, 1) + "circuit 1 0 0 1;circuit 1 0 0 1;");
        desk.offer(1, 2);
        check.due("2 in its backlog, none on its way", desk.close(1), 8);
        desk.run(1);
        check.due("1 in its backlog, 1 on its way", desk.close(1), 8);
        desk.run(1);
        check.due("backlog", desk.circuit(1, 6), 0);
        check.due("none in its backlog, 1 on its way", desk.close(1), 8);
        check.due("packets of another circuit", desk.close(0), 0);
        check.due("1 on its way", desk.close(0), 8);
        desk.run(1);
        check.due("none of both", desk.close(0), 0);
        CircuitDesk lost = Check.desk(Nets.pair(4, 20, 9) + "circuit 1 0 0 1;");
        lost.offer(0, 1);
        lost.run(1);
        lost.setUp(0, false);
        check.due("its packet is lost", lost.close(0), 0);
    }
}
