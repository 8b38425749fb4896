import java.io.IOException;

/** The promises 25 to 30, sentence by sentence. */
public final class EdgeTimeTest {
    private static final int LEAST = Integer.MIN_VALUE;
    private static final int MOST = Integer.MAX_VALUE;
    private static final int[] NO_CIRCUITS = {LEAST, -1, 8, MOST};
    private static final int[] NOT_OF_3 = {LEAST, -1, 3, MOST};

    public static void main(String[] args) throws IOException {
        Edges.run(EdgeTimeTest.class, args);
    }

    // ---- Promise 25

    @Sentence(in = "Promise 25", says = {"Lets ticks pass.", "ticks: 1 to 200"})
    static void promise25_ticks1To200(Check check) {
        CircuitDesk desk = new CircuitDesk();
        check.dueIllegalArgument("run(0)", () -> desk.run(0));
        desk.run(1);
        check.due("the time after run(1)", desk.count(5), 1);
        desk.run(200);
        check.due("the time after run(200)", desk.count(5), 201);
        check.dueIllegalArgument("run(201)", () -> desk.run(201));
    }

    @Sentence(in = "Promise 25",
            says = "Returns the number of packets that were delivered in them.")
    static void promise25_returnsThePacketsDeliveredInThem(Check check) {
        CircuitDesk desk = Check.desk(Nets.pair(4, 9, 2) + "circuit 1 1 0 1;circuit 1 1 1 0;");
        check.due("none yet", desk.run(2), 0);
        check.due("two of two circuits", desk.run(1), 2);
        check.due("in these ticks alone", desk.run(2), 4);
        desk.setUp(0, false);
        check.due("lost ones are not delivered", desk.run(200), 0);
        check.due("an empty desk", new CircuitDesk().run(200), 0);
        CircuitDesk full = Nets.packets(60);
        check.due("60", full.run(200), 60);
    }

    @Sentence(in = "Promise 25", says = "Throws IllegalArgumentException if ticks is out of range")
    static void promise25_throwsIfTicksIsOutOfRange(Check check) {
        CircuitDesk desk = Nets.circuits(1);
        for (int ticks : new int[] {LEAST, -1, 0, 201, 202, MOST}) {
            check.dueIllegalArgument("run(" + ticks + ")", () -> desk.run(ticks));
        }
        check.due("the time", desk.count(5), 0);
    }

    // ---- Promise 26

    @Sentence(in = "Promise 26", says = {"0: first node", "1: last node", "2: BAND", "3: PERIOD",
        "4: phase", "5: the delay of the active way", "Returns that number."})
    static void promise26_whatACircuitIs(Check check) {
        CircuitDesk desk = Check.desk(Nets.times(10, "node 4;") + "link 9 0 99 9;link 0 8 99 9;"
                + "link 9 8 99 1;circuit 20 9 9 0 8;circuit 1 0 8 0;");
        int[][] due = {{9, 8, 20, 9, 0, 18}, {8, 0, 1, 0, 0, 9}};
        for (int c = 0; c <= 1; c++) {
            for (int what = 0; what <= 5; what++) {
                check.due("circuit(" + c + ", " + what + ")", desk.circuit(c, what), due[c][what]);
            }
        }
        check.due("move", Nets.move(desk, 0, 9, 8), 0);
        int[] phases = {1, 1, 2};
        for (int phase : phases) {
            check.due("phase", desk.circuit(0, 4), phase);
            check.due("delay", desk.circuit(0, 5), phase == 1 ? 18 : 1);
            desk.run(1);
        }
        desk.run(17);
        check.due("phase", desk.circuit(0, 4), 3);
        check.due("delay", desk.circuit(0, 5), 1);
        check.due("last node", desk.circuit(0, 1), 8);
    }

    @Sentence(in = "Promise 26", says = "6: backlog")
    static void promise26_backlog0To9(Check check) {
        CircuitDesk desk = Nets.circuits(2);
        for (int backlog = 0; backlog <= 10; backlog++) {
            check.due("backlog", desk.circuit(1, 6), Math.min(9, backlog));
            desk.offer(1, 1);
        }
        check.due("of another one", desk.circuit(0, 6), 0);
    }

    @Sentence(in = "Promise 26", says = {"7: packets that were sent", "8: delivered ones",
        "9: lost ones", "13: packets on their ways"})
    static void promise26_sentDeliveredLostAndOnTheirWays(Check check) {
        CircuitDesk desk = Check.desk(Nets.pair(4, 9, 2) + "circuit 1 0 0 1;circuit 1 0 1 0;");
        desk.offer(0, 3);
        int[][] due = {{0, 0, 0, 0}, {1, 0, 0, 1}, {2, 0, 0, 2}, {3, 1, 0, 2}, {3, 2, 0, 1}};
        for (int[] row : due) {
            fates(check, desk, 0, row);
            fates(check, desk, 1, 0, 0, 0, 0);
            desk.run(1);
        }
        fates(check, desk, 0, 3, 3, 0, 0);
        desk.offer(0, 2);
        desk.run(1);
        desk.setUp(0, false);
        fates(check, desk, 0, 4, 3, 1, 0);
        desk.run(1);
        fates(check, desk, 0, 5, 3, 2, 0);
        fates(check, desk, 1, 0, 0, 0, 0);
        check.due("60 in all", Nets.packets(60).circuit(0, 13), 8);
    }

    private static void fates(Check check, CircuitDesk desk, int circuit, int... due) {
        int[] whats = {7, 8, 9, 13};
        for (int i = 0; i < 4; i++) {
            check.due("circuit(" + circuit + ", " + whats[i] + ") at " + desk.count(5),
                    desk.circuit(circuit, whats[i]), due[i]);
        }
    }

    @Sentence(in = "Promise 26", says = "10: late ones")
    static void promise26_lateOnes(Check check) {
        CircuitDesk desk = Check.desk(Nets.triangle(9, 9, 5, 1, 1) + "circuit 1 1 0 1 2;"
                + "circuit 1 1 0 1 2;");
        desk.run(10);
        Nets.move(desk, 0, 0, 2);
        // the packets 7 to 10 of circuit 0 come behind its packet 11
        int[] due = {0, 0, 0, 0, 1, 2, 3, 4, 4, 4};
        for (int late : due) {
            check.due("late ones at " + desk.count(5), desk.circuit(0, 10), late);
            check.due("of the other circuit", desk.circuit(1, 10), 0);
            desk.run(1);
        }
    }

    @Sentence(in = "Promise 26", says = "11: ticks for which it is held")
    static void promise26_ticksForWhichItIsHeld(Check check) {
        CircuitDesk desk = Check.desk(Nets.triangle(9, 9, 2, 2, 1) + "circuit 1 1 0 1 2;set 1 1;");
        check.due("not moved", desk.circuit(0, 11), 0);
        Nets.move(desk, 0, 0, 2);
        int[] due = {0, 0, 2, 1, 0, 0, 0, 0, 0};
        for (int held : due) {
            check.due("held at " + desk.count(5), desk.circuit(0, 11), held);
            desk.run(1);
        }
    }

    @Sentence(in = "Promise 26",
            says = "12: ticks that it still drains (0 if its phase is not 2)")
    static void promise26_ticksThatItStillDrains(Check check) {
        CircuitDesk desk = Check.desk(Nets.triangle(9, 9, 2, 2, 1) + "circuit 1 1 0 1 2;");
        check.due("not moved", desk.circuit(0, 12), 0);
        Nets.move(desk, 0, 0, 2);
        int[] due = {0, 0, 4, 3, 2, 1, 0, 0, 0};
        for (int ticks : due) {
            check.due("drains at " + desk.count(5), desk.circuit(0, 12), ticks);
            check.dueTrue("its phase is 2 just then", desk.circuit(0, 4) == 2 == (ticks > 0));
            desk.run(1);
        }
    }

    @Sentence(in = "Promise 26", says = "14: entries of the new way that are not made yet (0 if its"
            + " phase is not 1)")
    static void promise26_entriesThatAreNotMadeYet(Check check) {
        CircuitDesk desk = Check.desk(Nets.row(6, 4, 9, 1) + "link 0 5 9 1;circuit 1 0 0 5;");
        check.due("not moved", desk.circuit(0, 14), 0);
        Nets.move(desk, 0, 0, 1, 2, 3, 4, 5);
        int[] due = {5, 4, 3, 2, 1, 0, 0, 0, 0, 0};
        for (int entries : due) {
            check.due("entries at " + desk.count(5), desk.circuit(0, 14), entries);
            desk.run(1);
        }
        CircuitDesk aborted = Check.desk(Nets.triangle(9, 9, 2, 2, 1) + "circuit 1 1 0 2;");
        Nets.move(aborted, 0, 0, 1, 2);
        check.due("two to make", aborted.circuit(0, 14), 2);
        aborted.abort(0);
        check.due("aborted", aborted.circuit(0, 14), 0);
    }

    @Sentence(in = "Promise 26", says = {"circuit: a circuit",
        "Throws IndexOutOfBoundsException if there is no such circuit"})
    static void promise26_throwsIfThereIsNoSuchCircuit(Check check) {
        CircuitDesk desk = Nets.circuits(8);
        for (int circuit : NO_CIRCUITS) {
            check.dueOutOfBounds("circuit(" + circuit + ", 0)", () -> desk.circuit(circuit, 0));
        }
        check.due("circuit(0, 2)", desk.circuit(0, 2), 1);
        check.due("circuit(7, 2)", desk.circuit(7, 2), 8);
        desk.close(7);
        check.dueOutOfBounds("circuit(7, 2) of seven", () -> desk.circuit(7, 2));
    }

    @Sentence(in = "Promise 26", says = "Throws IllegalArgumentException if what is out of range")
    static void promise26_throwsIfWhatIsOutOfRange(Check check) {
        CircuitDesk desk = Nets.circuits(1);
        for (int what : new int[] {LEAST, -1, 15, 16, MOST}) {
            check.dueIllegalArgument("circuit(0, " + what + ")", () -> desk.circuit(0, what));
        }
        check.due("circuit(0, 0)", desk.circuit(0, 0), 0);
        check.due("circuit(0, 14)", desk.circuit(0, 14), 0);
    }

    // ---- Promise 27

    @Sentence(in = "Promise 27", says = {"isNew: true: the new way; false: the way (the old one)",
        "0: the node"})
    static void promise27_theWayAndTheNewWay(Check check) {
        CircuitDesk desk = Check.desk(Nets.triangle(4, 9, 1, 1, 1) + "circuit 1 0 0 1 2;");
        Nets.move(desk, 0, 0, 2);
        for (int left = desk.movedIn(0); left > 0; left--) {
            nodes(check, desk, false, 0, 1, 2);
            nodes(check, desk, true, 0, 2);
            desk.run(1);
        }
        nodes(check, desk, false, 0, 2);
        nodes(check, desk, true);
    }

    private static void nodes(Check check, CircuitDesk desk, boolean isNew, int... due) {
        for (int i = 0; i <= 6; i++) {
            check.due("way(0, " + isNew + ", " + i + ", 0)", desk.way(0, isNew, i, 0),
                    i < due.length ? due[i] : -1);
        }
    }

    @Sentence(in = "Promise 27", says = {"1: the space from which its label is (NONE for the first"
            + " node, and if it has given up its label)", "2: the label (likewise)"})
    static void promise27_theSpaceAndTheLabelOrNone(Check check) {
        CircuitDesk desk = Check.desk("node 2;node 1;node 3;link 0 1 9 1;link 1 2 9 1;link 0 2 9 1;"
                + "circuit 1 0 1 2;circuit 1 0 0 1;circuit 1 0 0 1 2;");
        int[][] due = {{-1, -1}, {0, 1}, {2, 1}};
        labels(check, desk, false, due);
        Nets.move(desk, 2, 0, 2);
        labels(check, desk, true, new int[][] {{-1, -1}, {2, 2}});
        desk.run(4);
        labels(check, desk, false, due);
        desk.run(1);
        due[1] = new int[] {-1, -1};
        labels(check, desk, false, due);
        desk.run(1);
        labels(check, desk, false, new int[][] {{-1, -1}, {2, 2}});
    }

    private static void labels(Check check, CircuitDesk desk, boolean isNew, int[][] due) {
        for (int i = 0; i < due.length; i++) {
            check.due("space of node " + i, desk.way(2, isNew, i, 1), due[i][0]);
            check.due("label of node " + i, desk.way(2, isNew, i, 2), due[i][1]);
        }
    }

    @Sentence(in = "Promise 27", says = {"index: 0 for the first node", "Returns that number; NONE"
            + " if the circuit has no such way, or it has not so many nodes."})
    static void promise27_noneIfItHasNotSoManyNodes(Check check) {
        CircuitDesk desk = Check.desk(Nets.row(6, 4, 9, 1) + "circuit 1 0 0 1 2 3 4 5;"
                + "circuit 1 0 0 1;");
        for (int what = 0; what <= 2; what++) {
            check.due("of 6 nodes the 6th: " + what, desk.way(0, false, 5, what),
                    what < 2 ? 5 : 0);
            check.due("of 6 nodes the 7th: " + what, desk.way(0, false, 6, what), -1);
            check.due("of 2 nodes the 2nd: " + what, desk.way(1, false, 1, what), 1);
            check.due("of 2 nodes the 3rd: " + what, desk.way(1, false, 2, what), -1);
            check.due("the greatest int: " + what, desk.way(1, false, MOST, what), -1);
            check.due("no such way: " + what, desk.way(0, true, 0, what), -1);
            check.due("no such way: " + what, desk.way(0, true, 5, what), -1);
            check.due("no such way: " + what, desk.way(0, true, MOST, what), -1);
        }
    }

    @Sentence(in = "Promise 27", says = {"circuit: a circuit", "Throws IndexOutOfBoundsException if"
            + " there is no such circuit, or index is negative"})
    static void promise27_throwsIfNoSuchCircuitOrANegativeIndex(Check check) {
        CircuitDesk desk = Nets.circuits(8);
        for (int circuit : NO_CIRCUITS) {
            check.dueOutOfBounds("way(" + circuit + ", false, 0, 0)",
                    () -> desk.way(circuit, false, 0, 0));
            check.dueOutOfBounds("way(" + circuit + ", true, 0, 0)",
                    () -> desk.way(circuit, true, 0, 0));
        }
        for (int index : new int[] {LEAST, -1}) {
            check.dueOutOfBounds("way(0, false, " + index + ", 0)",
                    () -> desk.way(0, false, index, 0));
            check.dueOutOfBounds("way(0, true, " + index + ", 0)",
                    () -> desk.way(0, true, index, 0));
        }
        check.due("way(0, false, 0, 0)", desk.way(0, false, 0, 0), 0);
        check.due("way(7, false, 1, 0)", desk.way(7, false, 1, 0), 1);
    }

    @Sentence(in = "Promise 27", says = "Throws IllegalArgumentException if what is out of range")
    static void promise27_throwsIfWhatIsOutOfRange(Check check) {
        CircuitDesk desk = Nets.circuits(1);
        for (int what : new int[] {LEAST, -1, 3, 4, MOST}) {
            check.dueIllegalArgument("of the way: " + what, () -> desk.way(0, false, 0, what));
            check.dueIllegalArgument("of no new way: " + what, () -> desk.way(0, true, 0, what));
            check.dueIllegalArgument("behind the way: " + what, () -> desk.way(0, false, 9, what));
        }
        check.due("what 0", desk.way(0, false, 1, 0), 1);
        check.due("what 2", desk.way(0, false, 1, 2), 0);
    }

    // ---- Promise 28

    @Sentence(in = "Promise 28", says = {"packet: 0 for the first packet that is on its way",
        "0: circuit", "1: its number", "Returns that number."})
    static void promise28_0ForTheFirstPacketOnItsWay(Check check) {
        CircuitDesk desk = Nets.packets(60);
        for (int p = 0; p <= 59; p++) {
            check.due("circuit of packet " + p, desk.packet(p, 0), p % 8);
            check.due("number of packet " + p, desk.packet(p, 1), p / 8);
        }
        desk.run(11);
        check.due("the first ones are delivered", desk.count(6), 52);
        check.due("the first one on its way", desk.packet(0, 1), 1);
        check.due("its circuit", desk.packet(0, 0), 0);
        check.due("the last one", desk.packet(51, 1), 7);
    }

    @Sentence(in = "Promise 28", says = {"2: the link on which it is",
        "3: the node to which it goes", "4: the space from which its label is", "5: the label",
        "6: the ticks that it still takes on this link"})
    static void promise28_whereAPacketIs(Check check) {
        CircuitDesk desk = Check.desk("node 4;node 1;node 1;link 1 2 9 1;link 0 1 9 3;"
                + "circuit 1 0 0 1;circuit 1 0 0 1 2;");
        desk.offer(1, 1);
        int[][] due = {{1, 1, 0, 3, 3}, {1, 1, 0, 3, 2}, {1, 1, 0, 3, 1}, {0, 2, 2, 0, 1}};
        for (int[] row : due) {
            desk.run(1);
            for (int what = 2; what <= 6; what++) {
                check.due("packet(0, " + what + ")", desk.packet(0, what), row[what - 2]);
            }
        }
        desk.run(1);
        check.dueOutOfBounds("it is delivered", () -> desk.packet(0, 2));
    }

    @Sentence(in = "Promise 28", says = "Throws IndexOutOfBoundsException if there is no such"
            + " packet")
    static void promise28_throwsIfThereIsNoSuchPacket(Check check) {
        CircuitDesk none = Nets.circuits(1);
        check.dueOutOfBounds("packet(0, 0) of none", () -> none.packet(0, 0));
        CircuitDesk three = Nets.packets(3);
        for (int packet : NOT_OF_3) {
            check.dueOutOfBounds("packet(" + packet + ", 0) of 3", () -> three.packet(packet, 0));
        }
        check.due("packet(0, 0) of 3", three.packet(0, 0), 0);
        check.due("packet(2, 0) of 3", three.packet(2, 0), 2);
        CircuitDesk full = Nets.packets(60);
        check.due("packet(59, 0) of 60", full.packet(59, 0), 3);
        check.dueOutOfBounds("packet(60, 0) of 60", () -> full.packet(60, 0));
        full.setUp(0, false);
        check.dueOutOfBounds("packet(0, 0) when all are lost", () -> full.packet(0, 0));
    }

    @Sentence(in = "Promise 28", says = "Throws IllegalArgumentException if what is out of range")
    static void promise28_throwsIfWhatIsOutOfRange(Check check) {
        CircuitDesk desk = Nets.packets(1);
        for (int what : new int[] {LEAST, -1, 7, 8, MOST}) {
            check.dueIllegalArgument("packet(0, " + what + ")", () -> desk.packet(0, what));
        }
        check.due("packet(0, 0)", desk.packet(0, 0), 0);
        check.due("packet(0, 6)", desk.packet(0, 6), 9);
    }

    // ---- Promise 29

    @Sentence(in = "Promise 29", says = "Returns the mean number of ticks from the sending to the"
            + " delivery of its delivered packets: their sum divided by their number, both"
            + " converted to double")
    static void promise29_theMeanOfItsDeliveredPackets(Check check) {
        // the old way takes 3 ticks and the new one 2, which are no whole mean
        CircuitDesk desk = Check.desk(Nets.triangle(4, 9, 1, 2, 2) + "circuit 1 0 0 1 2;"
                + "circuit 1 0 0 1;");
        desk.offer(0, 1);
        desk.run(4);
        check.dueD("3", desk.meanDelay(0), 3.0);
        Nets.move(desk, 0, 0, 2);
        desk.run(desk.movedIn(0));
        desk.offer(0, 1);
        desk.run(2);
        check.dueD("one that is on its way does not count", desk.meanDelay(0), 3.0);
        desk.run(1);
        check.dueD("3 and 2", desk.meanDelay(0), 2.5);
        desk.offer(0, 1);
        desk.run(3);
        check.dueD("3, 2 and 2", desk.meanDelay(0), 7.0 / 3.0);
        desk.offer(0, 1);
        desk.run(1);
        desk.setUp(2, false);
        check.dueD("one that is lost does not count", desk.meanDelay(0), 7.0 / 3.0);
        check.dueD("of another circuit", desk.meanDelay(1), -1.0);
    }

    @Sentence(in = "Promise 29", says = "-1.0 without any.")
    static void promise29_minus1WithoutAny(Check check) {
        CircuitDesk desk = Nets.circuits(1);
        check.dueD("none was sent", desk.meanDelay(0), -1.0);
        desk.offer(0, 1);
        desk.run(1);
        check.dueD("one is on its way", desk.meanDelay(0), -1.0);
        desk.run(1);
        check.dueD("one was delivered", desk.meanDelay(0), 1.0);
        CircuitDesk lost = Nets.circuits(1);
        lost.offer(0, 1);
        lost.setUp(0, false);
        lost.run(2);
        check.dueD("one was lost", lost.meanDelay(0), -1.0);
    }

    @Sentence(in = "Promise 29", says = {"circuit: a circuit",
        "Throws IndexOutOfBoundsException if there is no such circuit"})
    static void promise29_throwsIfThereIsNoSuchCircuit(Check check) {
        CircuitDesk desk = Nets.circuits(8);
        for (int circuit : NO_CIRCUITS) {
            check.dueOutOfBounds("meanDelay(" + circuit + ")", () -> desk.meanDelay(circuit));
        }
        check.dueD("meanDelay(0)", desk.meanDelay(0), -1.0);
        check.dueD("meanDelay(7)", desk.meanDelay(7), -1.0);
    }

    // ---- Promise 30

    @Sentence(in = "Promise 30", says = "Returns the part of all capacities that is reserved: the"
            + " sum of what is reserved on all links, divided by the sum of their CAPACITIES, both"
            + " converted to float")
    static void promise30_theReservedPartOfAllCapacities(Check check) {
        CircuitDesk desk = Check.desk("node 9;node 9;node 9;link 0 1 3 1;link 1 2 4 1;"
                + "link 0 2 6 1;");
        check.dueD("nothing", desk.usage(), 0.0f);
        Nets.open(desk, 1, 0, 1);
        check.dueD("1 of 13", desk.usage(), 1.0f / 13.0f);
        Nets.open(desk, 2, 0, 1, 2);
        check.dueD("5 of 13", desk.usage(), 5.0f / 13.0f);
        Nets.move(desk, 1, 0, 2);
        check.dueD("7 of 13 while it is moved", desk.usage(), 7.0f / 13.0f);
        desk.setUp(0, false);
        check.dueD("a link that is down counts", desk.usage(), 7.0f / 13.0f);
        Nets.open(desk, 4, 0, 2);
        Nets.open(desk, 2, 1, 2);
        check.dueD("13 of 13", desk.usage(), 13.0f / 13.0f);
        CircuitDesk third = Check.desk(Nets.pair(1, 3, 1) + "circuit 1 0 0 1;");
        check.dueTrue("a third as a float", third.usage() == 1.0f / 3.0f);
        third.save(0);
        third.addNode(1);
        third.addLink(1, 2, 97, 1);
        check.dueD("1 of 100", third.usage(), 1.0f / 100.0f);
        third.restore(0);
        check.dueD("1 of 3, as it was", third.usage(), 1.0f / 3.0f);
        check.dueTrue("a third as a float is no third as a double",
                (double) third.usage() != 1.0 / 3.0);
    }

    @Sentence(in = "Promise 30", says = "0 without links.")
    static void promise30_0WithoutLinks(Check check) {
        CircuitDesk desk = new CircuitDesk();
        check.dueD("without nodes", desk.usage(), 0.0f);
        desk.addNode(1);
        desk.addNode(1);
        check.dueD("without links", desk.usage(), 0.0f);
        desk.addLink(0, 1, 1, 1);
        check.dueD("without circuits", desk.usage(), 0.0f);
        Nets.open(desk, 1, 0, 1);
        check.dueD("1 of 1", desk.usage(), 1.0f);
    }
}
