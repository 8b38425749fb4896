import java.io.IOException;

/** NODES AND LINKS, CIRCUITS, LABELS and SETTINGS, sentence by sentence. */
public final class EdgeRulesTest {
    public static void main(String[] args) throws IOException {
        Edges.run(EdgeRulesTest.class, args);
    }

    // ---- What it is

    @Sentence(in = "What it is", says = "An object is used for at most 512 calls after it has been"
            + " made; what later calls answer is free.")
    static void promise25_the512thCallIsStillAnswered(Check check) {
        CircuitDesk desk = new CircuitDesk();
        desk.addNode(1);
        desk.addNode(1);
        desk.addLink(0, 1, 1, 1);
        desk.draft(0);
        desk.draft(1);
        desk.open(1, 1);
        for (int call = 7; call <= 511; call++) {
            desk.run(200);
        }
        check.due("the 512th call, count(8)", desk.count(8), 505 * 200 - 1);
        CircuitDesk other = Nets.circuits(1); // 14 calls
        for (int call = 15; call <= 511; call++) {
            other.offer(0, 9);
        }
        check.due("the 512th call, offer(0, 1)", other.offer(0, 1), 9);
    }

    // ---- NODES AND LINKS

    @Sentence(in = "NODES AND LINKS", says = "There are at most 10 nodes, numbered from 0")
    static void promise07_atMost10NodesNumberedFrom0(Check check) {
        CircuitDesk desk = new CircuitDesk();
        for (int i = 0; i <= 9; i++) {
            check.due("addNode(1)", desk.addNode(1), i);
        }
        check.dueIllegalState("addNode(1), an 11th", () -> desk.addNode(1));
        check.due("nodes", desk.count(2), 10);
    }

    @Sentence(in = "NODES AND LINKS",
            says = "a node has a SPACE of 1 to 12 labels, numbered from 0")
    static void promise13_labelsOfASpaceAreNumberedFrom0(Check check) {
        CircuitDesk desk = new CircuitDesk();
        desk.addNode(1);
        desk.addNode(12);
        check.dueOutOfBounds("label(0, -1, 0)", () -> desk.label(0, -1, 0));
        check.due("label(0, 0, 0)", desk.label(0, 0, 0), -1);
        check.dueOutOfBounds("label(0, 1, 0)", () -> desk.label(0, 1, 0));
        check.dueOutOfBounds("label(1, -1, 0)", () -> desk.label(1, -1, 0));
        check.due("label(1, 11, 0)", desk.label(1, 11, 0), -1);
        check.dueOutOfBounds("label(1, 12, 0)", () -> desk.label(1, 12, 0));
        check.dueIllegalArgument("addNode(0)", () -> desk.addNode(0));
        check.dueIllegalArgument("addNode(13)", () -> desk.addNode(13));
    }

    @Sentence(in = "NODES AND LINKS", says = "There are at most 16 links, numbered from 0")
    static void promise08_atMost16LinksNumberedFrom0(Check check) {
        CircuitDesk desk = new CircuitDesk();
        for (int i = 0; i < 10; i++) {
            desk.addNode(1);
        }
        for (int i = 0; i <= 15; i++) {
            check.due("addLink", Nets.addLink(desk, i), i);
        }
        check.dueIllegalState("addLink, a 17th", () -> desk.addLink(0, 9, 9, 1));
        check.due("links", desk.count(3), 16);
    }

    @Sentence(in = "NODES AND LINKS",
            says = "at most one between two different nodes, for both directions")
    static void promise08_atMostOneLinkBetweenTwoNodes(Check check) {
        CircuitDesk desk = Check.desk("node 2;node 2;node 2;");
        check.due("addLink(0, 1)", desk.addLink(0, 1, 9, 1), 0);
        check.dueIllegalState("addLink(0, 1) again", () -> desk.addLink(0, 1, 9, 1));
        check.dueIllegalState("addLink(1, 0)", () -> desk.addLink(1, 0, 9, 1));
        check.due("addLink(2, 1)", desk.addLink(2, 1, 9, 1), 1);
        check.dueIllegalState("addLink(1, 2)", () -> desk.addLink(1, 2, 9, 1));
        check.dueIllegalArgument("addLink(2, 2)", () -> desk.addLink(2, 2, 9, 1));
        check.due("the way 0, 1, 2", Nets.open(desk, 1, 0, 1, 2), 0);
        check.due("the way 2, 1, 0", Nets.open(desk, 1, 2, 1, 0), 0);
    }

    @Sentence(in = "NODES AND LINKS", says = "a link has a CAPACITY (1 to 99) and a DELAY (1 to 9,"
            + " in ticks), and is up or down (up at first).")
    static void promise08_capacity1To99Delay1To9UpAtFirst(Check check) {
        CircuitDesk desk = Check.desk("node 1;node 1;node 1;");
        check.due("the least of both", desk.addLink(0, 1, 1, 1), 0);
        check.due("the greatest of both", desk.addLink(1, 2, 99, 9), 1);
        int[][] due = {{0, 1, 1, 1, 1, 0, 0}, {1, 2, 99, 9, 1, 0, 0}};
        for (int link = 0; link <= 1; link++) {
            for (int what = 0; what <= 6; what++) {
                check.due("link(" + link + ", " + what + ")", desk.link(link, what),
                        due[link][what]);
            }
        }
        check.dueIllegalArgument("CAPACITY 0", () -> desk.addLink(0, 2, 0, 1));
        check.dueIllegalArgument("CAPACITY 100", () -> desk.addLink(0, 2, 100, 1));
        check.dueIllegalArgument("DELAY 0", () -> desk.addLink(0, 2, 1, 0));
        check.dueIllegalArgument("DELAY 10", () -> desk.addLink(0, 2, 1, 10));
    }

    @Sentence(in = "NODES AND LINKS", says = "A way is a row of 2 to 6 different nodes")
    static void promise19_aWayHas2To6DifferentNodes(Check check) {
        CircuitDesk desk = Check.desk(Nets.row(7, 4, 99, 1));
        check.due("a way of 1 node", Nets.open(desk, 1, 0), 3);
        check.due("a way of 2 nodes", Nets.open(desk, 1, 0, 1), 0);
        check.due("a way of 6 nodes", Nets.open(desk, 1, 0, 1, 2, 3, 4, 5), 0);
        Check.draft(desk, 0, 1, 2, 3, 4, 5);
        check.dueIllegalState("a 7th node", () -> desk.draft(6));
        Check.draft(desk, 0, 1);
        check.dueIllegalState("the node before", () -> desk.draft(0));
        check.dueIllegalState("the same node", () -> desk.draft(1));
    }

    @Sentence(in = "NODES AND LINKS", says = "each of which has a link to the next one.")
    static void promise15_eachNodeHasALinkToTheNext(Check check) {
        CircuitDesk desk = Check.desk("node 1;node 1;node 1;link 1 0 9 1;");
        Check.draft(desk, 0);
        check.dueIllegalState("0, 2 without a link", () -> desk.draft(2));
        check.due("0, 1 with a link", desk.draft(1), 2);
        check.dueIllegalState("1, 2 without a link", () -> desk.draft(2));
        desk.addLink(2, 1, 9, 1);
        check.due("1, 2 with a link", desk.draft(2), 3);
    }

    @Sentence(in = "NODES AND LINKS", says = "Its delay is the sum of the DELAYS of its links.")
    static void promise26_theDelayIsTheSumOfTheDelays(Check check) {
        CircuitDesk quick = Check.desk(Nets.pair(1, 9, 1) + "circuit 1 0 0 1;");
        check.due("the least delay", quick.circuit(0, 5), 1);
        CircuitDesk slow = Check.desk(Nets.row(6, 1, 9, 9) + "circuit 1 0 0 1 2 3 4 5;");
        check.due("the greatest delay", slow.circuit(0, 5), 45);
        CircuitDesk mixed = Check.desk(Nets.triangle(3, 9, 2, 7, 1) + "circuit 1 0 2 1 0;");
        check.due("7 and 2", mixed.circuit(0, 5), 9);
    }

    // ---- CIRCUITS

    @Sentence(in = "CIRCUITS", says = "There are at most 8 circuits, numbered from 0")
    static void promise19_atMost8CircuitsNumberedFrom0(Check check) {
        CircuitDesk desk = Nets.circuits(7);
        check.due("open, an 8th", Nets.open(desk, 8, 0, 1), 0);
        check.due("open, a 9th", Nets.open(desk, 9, 0, 1), 1);
        check.due("circuits", desk.count(4), 8);
        check.dueOutOfBounds("circuit(-1, 2)", () -> desk.circuit(-1, 2));
        check.due("BAND of circuit 0", desk.circuit(0, 2), 1);
        check.due("BAND of circuit 7", desk.circuit(7, 2), 8);
        check.dueOutOfBounds("circuit(8, 2)", () -> desk.circuit(8, 2));
    }

    @Sentence(in = "CIRCUITS",
            says = "if one is closed, the numbers of those behind it become 1 less.")
    static void promise20_numbersBehindAClosedOneBecome1Less(Check check) {
        int[][] left = {{2, 3, 4}, {1, 3, 4}, {1, 2, 4}, {1, 2, 3}};
        for (int closed = 0; closed <= 3; closed++) {
            CircuitDesk desk = Nets.circuits(4);
            check.due("close(" + closed + ")", desk.close(closed), 0);
            for (int c = 0; c <= 2; c++) {
                check.due("BAND of " + c, desk.circuit(c, 2), left[closed][c]);
                check.due("circuit of its label", desk.label(1, left[closed][c] - 1, 1), c);
            }
            check.dueOutOfBounds("circuit(3, 2)", () -> desk.circuit(3, 2));
        }
    }

    @Sentence(in = "CIRCUITS", says = "A circuit has a BAND (1 to 20), a PERIOD (0 to 9) and a way")
    static void promise19_band1To20Period0To9(Check check) {
        CircuitDesk desk = Check.desk(Nets.pair(4, 99, 1));
        Check.draft(desk, 0, 1);
        check.dueIllegalArgument("open(0, 0)", () -> desk.open(0, 0));
        check.dueIllegalArgument("open(21, 0)", () -> desk.open(21, 0));
        check.dueIllegalArgument("open(1, -1)", () -> desk.open(1, -1));
        check.dueIllegalArgument("open(1, 10)", () -> desk.open(1, 10));
        check.due("open(1, 0)", desk.open(1, 0), 0);
        Check.draft(desk, 0, 1);
        check.due("open(20, 9)", desk.open(20, 9), 0);
        check.due("BAND 1", desk.circuit(0, 2), 1);
        check.due("PERIOD 0", desk.circuit(0, 3), 0);
        check.due("BAND 20", desk.circuit(1, 2), 20);
        check.due("PERIOD 9", desk.circuit(1, 3), 9);
        check.due("its way begins", desk.way(1, false, 0, 0), 0);
        check.due("its way ends", desk.way(1, false, 1, 0), 1);
    }

    @Sentence(in = "CIRCUITS", says = "while it is moved, it has a new way, too, with the same"
            + " first and last node.")
    static void promise21_aNewWayWhileItIsMovedWithTheSameEnds(Check check) {
        CircuitDesk desk = Check.desk(Nets.triangle(4, 9, 1, 1, 1) + "circuit 1 0 0 1 2;");
        check.due("another first node", Nets.move(desk, 0, 1, 2), 3);
        check.due("another last node", Nets.move(desk, 0, 0, 1), 3);
        check.due("no new way before", desk.way(0, true, 0, 0), -1);
        check.due("the same ends", Nets.move(desk, 0, 0, 2), 0);
        for (int left = desk.movedIn(0); left > 0; left--) {
            check.due("first node with " + left + " left", desk.way(0, true, 0, 0), 0);
            check.due("last node with " + left + " left", desk.way(0, true, 1, 0), 2);
            desk.run(1);
        }
        check.due("no new way behind", desk.way(0, true, 0, 0), -1);
    }

    @Sentence(in = "CIRCUITS", says = "It reserves its BAND on each link of its way and of its new"
            + " way (only once on a link of both).")
    static void promise14_bandIsReservedOnceOnALinkOfBothWays(Check check) {
        // old way 0, 1, 2, 3 and new way 0, 1, 3: the link 0 is of both
        CircuitDesk desk = Check.desk(Nets.row(4, 3, 20, 1) + "link 1 3 20 1;link 0 3 20 1;"
                + "circuit 7 0 0 1 2 3;");
        reserved(check, desk, 7, 7, 7, 0, 0);
        check.due("move", Nets.move(desk, 0, 0, 1, 3), 0);
        for (int left = desk.movedIn(0); left > 0; left--) {
            reserved(check, desk, 7, 7, 7, 7, 0);
            desk.run(1);
        }
        reserved(check, desk, 7, 0, 0, 7, 0);
        Nets.move(desk, 0, 0, 1, 2, 3);
        reserved(check, desk, 7, 7, 7, 7, 0);
        desk.abort(0);
        reserved(check, desk, 7, 0, 0, 7, 0);
        desk.close(0);
        reserved(check, desk, 0, 0, 0, 0, 0);
    }

    private static void reserved(Check check, CircuitDesk desk, int... due) {
        for (int link = 0; link < due.length; link++) {
            check.due("reserved on " + link, desk.link(link, 5), due[link]);
        }
    }

    @Sentence(in = "CIRCUITS", says = "A link has room for a circuit if it is up, and what all"
            + " other circuits reserve on it and the BAND are at most its CAPACITY together.")
    static void promise19_roomUpToTheCapacity(Check check) {
        CircuitDesk desk = Check.desk(Nets.pair(9, 20, 1) + "circuit 8 0 0 1;circuit 3 0 1 0;");
        check.due("11 and 10 of 20", Nets.open(desk, 10, 0, 1), 5);
        check.due("11 and 9 of 20", Nets.open(desk, 9, 0, 1), 0);
        check.due("20 and 1 of 20", Nets.open(desk, 1, 0, 1), 5);
        check.due("close", desk.close(2), 0);
        desk.setUp(0, false);
        check.due("down", Nets.open(desk, 1, 0, 1), 5);
        desk.setUp(0, true);
        check.due("up", Nets.open(desk, 1, 0, 1), 0);
    }

    @Sentence(in = "CIRCUITS", says = "what all other circuits reserve on it")
    static void promise21_roomDoesNotCountTheCircuitItself(Check check) {
        String net = Nets.row(4, 3, 20, 1) + "link 1 3 20 1;";
        CircuitDesk fits = Check.desk(net + "circuit 20 0 0 1 2 3;");
        check.due("its own 20 of 20", Nets.move(fits, 0, 0, 1, 3), 0);
        CircuitDesk tight = Check.desk(net + "circuit 10 0 0 1 2 3;circuit 10 0 0 1;"
                + "circuit 10 0 1 3;");
        check.due("10 of others and 10 of 20", Nets.move(tight, 0, 0, 1, 3), 0);
        CircuitDesk over = Check.desk(net + "circuit 10 0 0 1 2 3;circuit 11 0 1 3;");
        check.due("11 of others and 10 of 20", Nets.move(over, 0, 0, 1, 3), 5);
    }

    // ---- LABELS

    @Sentence(in = "LABELS", says = "Each node of a way but the first one has a label for this way"
            + " of this circuit; it is a label of its own space or a borrowed one.")
    static void promise27_eachNodeButTheFirstHasALabel(Check check) {
        CircuitDesk desk = Check.desk(Nets.row(6, 1, 9, 1) + "circuit 1 0 0 1 2 3 4 5;");
        check.due("space of the first node's label", desk.way(0, false, 0, 1), -1);
        check.due("the first node's label", desk.way(0, false, 0, 2), -1);
        for (int i = 1; i <= 5; i++) {
            check.due("space of the label of " + i, desk.way(0, false, i, 1), i);
            check.due("the label of " + i, desk.way(0, false, i, 2), 0);
        }
        check.due("the first node's space is free", desk.node(0, 1), 1);
        // node 1 has no label left, and borrows the first node's
        check.due("open", Nets.open(desk, 1, 0, 1), 0);
        check.due("space of a borrowed label", desk.way(1, false, 1, 1), 0);
        check.due("a borrowed label", desk.way(1, false, 1, 2), 0);
    }

    @Sentence(in = "LABELS", says = "A label that nobody has is free.")
    static void promise12_aLabelThatNobodyHasIsFree(Check check) {
        CircuitDesk desk = Check.desk(Nets.pair(2, 9, 1));
        for (int had = 0; had <= 2; had++) {
            check.due("free labels with " + had, desk.node(1, 1), 2 - had);
            check.due("label 0 with " + had, desk.label(1, 0, 0), had > 0 ? 1 : -1);
            check.due("label 1 with " + had, desk.label(1, 1, 0), had > 1 ? 1 : -1);
            Nets.open(desk, 1, 0, 1);
        }
    }

    @Sentence(in = "LABELS", says = "A node gets a label like this: if its own space has free"
            + " labels, the lowest of these.")
    static void promise19_theLowestFreeLabelOfItsOwnSpace(Check check) {
        CircuitDesk desk = Check.desk(Nets.pair(3, 9, 1));
        for (int label = 0; label <= 2; label++) {
            check.due("open", Nets.open(desk, 1, 0, 1), 0);
            check.due("its own space", desk.way(label, false, 1, 1), 1);
            check.due("the lowest free", desk.way(label, false, 1, 2), label);
        }
        check.due("none is free: open", Nets.open(desk, 1, 0, 1), 0);
        check.due("none is free: a borrowed one", desk.way(3, false, 1, 1), 0);
        desk.close(1);
        desk.close(1);
        check.due("1 and 2 are free: open", Nets.open(desk, 1, 0, 1), 0);
        check.due("the lower one", desk.way(2, false, 1, 2), 1);
        check.due("of its own space", desk.way(2, false, 1, 1), 1);
    }

    @Sentence(in = "LABELS", says = "Otherwise, if the node has fewer than BORROW borrowed labels")
    static void promise19_fewerThanBorrowBorrowedLabels(Check check) {
        for (int borrow = 0; borrow <= 4; borrow++) {
            CircuitDesk desk = Check.desk("node 9;node 1;link 0 1 99 1;circuit 1 0 0 1;set 0 "
                    + borrow + ";");
            for (int borrowed = 0; borrowed < borrow; borrowed++) {
                check.due("BORROW " + borrow + ", has " + borrowed, Nets.open(desk, 1, 0, 1), 0);
            }
            check.due("has BORROW " + borrow, Nets.open(desk, 1, 0, 1), 6);
            check.due("borrowed labels", desk.node(1, 4), borrow);
        }
    }

    @Sentence(in = "LABELS", says = "fewer than BORROW borrowed labels")
    static void promise10_borrowBelowWhatIsBorrowed(Check check) {
        CircuitDesk desk = Check.desk("node 9;node 1;link 0 1 99 1;set 0 3;"
                + Nets.times(4, "circuit 1 0 0 1;"));
        desk.set(0, 2);
        check.due("has 3, BORROW 2", Nets.open(desk, 1, 0, 1), 6);
        desk.close(3);
        check.due("has 2, BORROW 2", Nets.open(desk, 1, 0, 1), 6);
        desk.close(2);
        check.due("has 1, BORROW 2", Nets.open(desk, 1, 0, 1), 0);
        // what it borrows alone counts, not its own labels, and not what it lends
        CircuitDesk lender = Check.desk("node 4;node 3;node 1;link 0 1 99 1;link 1 2 99 1;"
                + "circuit 1 0 0 1;circuit 1 0 1 2;circuit 1 0 1 2;circuit 1 0 0 1;");
        check.due("one of its labels is lent", lender.node(1, 3), 1);
        check.due("none of its labels is free", lender.node(1, 1), 0);
        check.due("it borrows none yet, BORROW 1", Nets.open(lender, 1, 0, 1), 0);
        check.due("it borrows 1, BORROW 1", Nets.open(lender, 1, 0, 1), 6);
    }

    @Sentence(in = "LABELS", says = "a neighbour (a node with a link to it, up or down) lends one")
    static void promise19_aNeighbourUpOrDownLends(Check check) {
        // node 2 has no link to node 1 at first
        CircuitDesk desk = Check.desk("node 1;node 1;node 5;link 0 1 99 1;set 0 2;"
                + "circuit 1 0 0 1;circuit 1 0 1 0;");
        check.due("without a link to node 2", Nets.open(desk, 1, 0, 1), 6);
        desk.addLink(2, 1, 1, 1);
        desk.setUp(1, false);
        check.due("with a link that is down", Nets.open(desk, 1, 0, 1), 0);
        check.due("lent by node 2", desk.way(2, false, 1, 1), 2);
        desk.setUp(1, true);
        check.due("with a link that is up", Nets.open(desk, 1, 0, 1), 0);
        check.due("lent by node 2", desk.way(3, false, 1, 1), 2);
    }

    @Sentence(in = "LABELS", says = "of the neighbours with free labels the one with the most of"
            + " them, of several the lowest node")
    static void promise19_theNeighbourWithTheMostFreeLabelsLends(Check check) {
        String nets = "link 1 0 99 1;link 1 2 99 1;link 1 3 99 1;set 0 4;circuit 1 0 0 1;";
        lender(check, "node 2;node 1;node 3;node 2;" + nets, 2);
        lender(check, "node 2;node 1;node 2;node 3;" + nets, 3);
        lender(check, "node 3;node 1;node 2;node 2;" + nets, 0);
        lender(check, "node 3;node 1;node 3;node 3;" + nets, 0);
        lender(check, "node 2;node 1;node 3;node 3;" + nets, 2);
        lender(check, "node 1;node 1;node 2;node 1;" + nets, 2);
        // the SPACE of node 2 is greater, but fewer of its labels are free
        lender(check, "node 2;node 1;node 4;node 1;" + nets + Nets.times(3, "circuit 1 0 1 2;"), 0);
    }

    private static void lender(Check check, String setup, int due) {
        CircuitDesk desk = Check.desk(setup);
        check.due("open", Nets.open(desk, 1, 0, 1), 0);
        check.due("lender", desk.way(desk.count(4) - 1, false, 1, 1), due);
    }

    @Sentence(in = "LABELS", says = "of the neighbours with free labels")
    static void promise19_aNeighbourWithoutFreeLabelsDoesNotLend(Check check) {
        CircuitDesk desk = Check.desk("node 1;node 1;node 2;link 0 1 99 1;link 1 2 99 1;set 0 4;"
                + "circuit 1 0 0 1;circuit 1 0 1 0;circuit 1 0 1 2;");
        check.due("a neighbour has 1 free label", Nets.open(desk, 1, 0, 1), 0);
        check.due("it lends", desk.way(3, false, 1, 1), 2);
        check.due("no neighbour has free labels", Nets.open(desk, 1, 0, 1), 6);
        CircuitDesk apart = Check.desk("node 2;node 1;node 1;node 2;link 1 2 99 1;set 0 4;"
                + "circuit 1 0 2 1;circuit 1 0 1 2;");
        check.due("nodes that are no neighbours have some", Nets.open(apart, 1, 1, 2), 6);
        apart.addLink(3, 2, 1, 1);
        check.due("one of them is a neighbour", Nets.open(apart, 1, 1, 2), 0);
        check.due("that one lends", apart.way(2, false, 1, 1), 3);
    }

    @Sentence(in = "LABELS", says = "it lends its highest free label.")
    static void promise19_theHighestFreeLabelIsLent(Check check) {
        CircuitDesk desk = Check.desk("node 12;node 1;link 0 1 99 1;set 0 4;circuit 1 0 0 1;");
        for (int c = 1; c <= 4; c++) {
            Nets.open(desk, 1, 0, 1);
            check.due("lent label", desk.way(c, false, 1, 2), 12 - c);
        }
        desk.close(2);
        Nets.open(desk, 1, 0, 1);
        check.due("the highest free one between others", desk.way(4, false, 1, 2), 10);
        CircuitDesk last = Check.desk("node 1;node 1;link 0 1 99 1;circuit 1 0 0 1;");
        Nets.open(last, 1, 0, 1);
        check.due("the label 0 of a SPACE of 1", last.way(1, false, 1, 2), 0);
    }

    @Sentence(in = "LABELS", says = "Otherwise there is no label for it.")
    static void promise19_otherwiseThereIsNoLabel(Check check) {
        CircuitDesk desk = Check.desk(Nets.pair(1, 99, 1) + "circuit 1 0 1 0;");
        check.due("its own label, the last one", Nets.open(desk, 1, 0, 1), 0);
        check.due("no label of its own, none that is lent", Nets.open(desk, 1, 0, 1), 6);
        check.due("nor for a move", desk.count(4), 2);
    }

    @Sentence(in = "LABELS",
            says = "A label that a node gives up is free again in the space from which it is.")
    static void promise20_aLabelThatIsGivenUpIsFreeInItsSpace(Check check) {
        CircuitDesk desk = Check.desk("node 2;node 1;link 0 1 99 1;circuit 1 0 0 1;"
                + "circuit 1 0 0 1;");
        check.due("free labels of the lender", desk.node(0, 1), 1);
        check.due("lent labels", desk.node(0, 3), 1);
        check.due("close the borrower", desk.close(1), 0);
        check.due("free labels of the lender", desk.node(0, 1), 2);
        check.due("free labels of the borrower", desk.node(1, 1), 0);
        check.due("nobody has it", desk.label(0, 1, 0), -1);
        check.due("close the other one", desk.close(0), 0);
        check.due("free labels of its own", desk.node(1, 1), 1);
    }

    @Sentence(in = "LABELS",
            says = "Each label that a node has stands for an entry, which is made or not")
    static void promise13_eachLabelStandsForAnEntryMadeOrNot(Check check) {
        CircuitDesk desk = Check.desk(Nets.triangle(4, 9, 1, 1, 1) + "circuit 1 0 0 1 2;");
        check.due("made at once", desk.label(2, 0, 3), 1);
        check.due("free, no entry", desk.label(2, 1, 3), -1);
        Nets.move(desk, 0, 0, 2);
        check.due("not made", desk.label(2, 1, 3), 0);
        check.due("made entries of the node", desk.node(2, 5), 1);
        desk.run(1);
        check.due("made", desk.label(2, 1, 3), 1);
        check.due("made entries of the node", desk.node(2, 5), 2);
        desk.abort(0);
        check.due("free again", desk.label(2, 1, 3), -1);
        check.due("made entries of the node", desk.node(2, 5), 1);
        Nets.move(desk, 0, 0, 2);
        check.due("not made again", desk.label(2, 1, 3), 0);
    }

    @Sentence(in = "LABELS", says = "by a made entry the node knows where a packet with this label"
            + " goes: to the next node of the way, with the label of that one; at the last node it"
            + " is delivered.")
    static void promise25_aMadeEntryTellsWhereAPacketGoes(Check check) {
        CircuitDesk desk = Check.desk(Nets.row(4, 2, 9, 1) + "circuit 1 0 3 2;circuit 1 0 0 1 2 3;"
                + "circuit 1 0 2 3;");
        desk.offer(1, 1);
        int[][] due = {{1, 1, 0}, {2, 2, 1}, {3, 3, 0}};
        for (int[] row : due) {
            check.due("run", desk.run(1), 0);
            check.due("it goes to", desk.packet(0, 3), row[0]);
            check.due("with a label of", desk.packet(0, 4), row[1]);
            check.due("with the label", desk.packet(0, 5), row[2]);
        }
        check.due("delivered at the last node", desk.run(1), 1);
        check.due("packets left", desk.count(6), 0);
    }

    // ---- SETTINGS

    @Sentence(in = "SETTINGS", says = "0 BORROW 0 to 4 (1)")
    static void promise10_borrow0To4AtFirst1(Check check) {
        CircuitDesk desk = new CircuitDesk();
        check.due("at first", desk.count(0), 1);
        check.dueIllegalArgument("set(0, -1)", () -> desk.set(0, -1));
        check.due("set(0, 0)", desk.set(0, 0), 1);
        check.due("set(0, 4)", desk.set(0, 4), 0);
        check.dueIllegalArgument("set(0, 5)", () -> desk.set(0, 5));
        check.due("BORROW", desk.count(0), 4);
        check.due("ORDER", desk.count(1), 0);
    }

    @Sentence(in = "SETTINGS", says = "1 ORDER 0 to 1 (0)")
    static void promise10_order0To1AtFirst0(Check check) {
        CircuitDesk desk = new CircuitDesk();
        check.due("at first", desk.count(1), 0);
        check.dueIllegalArgument("set(1, -1)", () -> desk.set(1, -1));
        check.due("set(1, 1)", desk.set(1, 1), 0);
        check.dueIllegalArgument("set(1, 2)", () -> desk.set(1, 2));
        check.due("set(1, 0)", desk.set(1, 0), 1);
        check.due("ORDER", desk.count(1), 0);
        check.due("BORROW", desk.count(0), 1);
    }
}
