import java.io.IOException;

/** OPENING AND MOVING, PACKETS, A TICK and FAILING LINKS, sentence by sentence. */
public final class EdgeMoveTest {
    private static final String LONG = "0 1 2 3 4 5;";

    public static void main(String[] args) throws IOException {
        Edges.run(EdgeMoveTest.class, args);
    }

    /** Six nodes in a row and a link 5 between the ends, of these DELAYS. */
    private static String ring(int delay, int direct) {
        return Nets.row(6, 4, 20, delay) + "link 0 5 20 " + direct + ";";
    }

    // ---- What it is

    @Sentence(in = "What it is",
            says = "Circuits with labels that are moved from way to way without a loss")
    static void promise25_movedWithoutALoss(Check check) {
        for (int order = 0; order <= 1; order++) {
            CircuitDesk desk = Check.desk(Nets.triangle(2, 9, 4, 9, 1) + "circuit 1 1 0 1 2;"
                    + "circuit 1 1 0 2;set 0 4;set 1 " + order + ";");
            for (int moves = 0; moves < 6; moves++) {
                Nets.move(desk, 0, moves % 2 == 0 ? new int[] {0, 2} : new int[] {0, 1, 2});
                desk.run(desk.movedIn(0));
            }
            check.due("moves completed", desk.count(14), 6);
            check.due("lost", desk.count(9), 0);
            if (order == 1) {
                check.due("late with ORDER 1", desk.count(11), 0);
            }
        }
    }

    @Sentence(in = "What it is", says = "moves that are aborted, links that fail, packets that run"
            + " meanwhile and are counted.")
    static void promise11_packetsAreCountedMeanwhile(Check check) {
        CircuitDesk desk = Check.desk(Nets.triangle(9, 9, 4, 3, 2) + "circuit 1 1 0 1 2;");
        for (int round = 0; round < 9; round++) {
            desk.setUp(round % 3, round % 2 == 0);
            desk.moveBest(0, round % 4 - 1);
            desk.run(round + 1);
            desk.abort(0);
            int left = desk.count(6);
            check.due("sent", desk.count(7), desk.count(8) + desk.count(9) + left);
            check.due("grown", desk.count(5), desk.count(7) + desk.count(10) + desk.circuit(0, 6));
            check.due("on their ways", desk.circuit(0, 13), left);
        }
        check.dueTrue("some are delivered, and some are lost",
                desk.count(8) > 0 && desk.count(9) > 0);
    }

    // ---- OPENING AND MOVING

    @Sentence(in = "OPENING AND MOVING", says = "A circuit is opened along a way: all nodes get"
            + " their labels, from the second node on, and all entries are made at once. Its phase"
            + " is 0.")
    static void promise19_labelsFromTheSecondNodeOn(Check check) {
        // node 1 has no label of its own; node 2 has one free label more than node 0 only as long
        // as it has not got its own one
        CircuitDesk desk = Check.desk("node 1;node 1;node 2;link 0 1 9 1;link 1 2 9 1;"
                + "circuit 1 0 0 1;");
        check.due("open", Nets.open(desk, 1, 0, 1, 2), 0);
        check.due("lender of the second node", desk.way(1, false, 1, 1), 2);
        check.due("its label", desk.way(1, false, 1, 2), 1);
        check.due("space of the last node's label", desk.way(1, false, 2, 1), 2);
        check.due("its label", desk.way(1, false, 2, 2), 0);
        check.due("entry of the second node", desk.label(2, 1, 3), 1);
        check.due("entry of the last node", desk.label(2, 0, 3), 1);
        check.due("phase", desk.circuit(1, 4), 0);
    }

    @Sentence(in = "OPENING AND MOVING", says = "A move begins with a new way: its nodes get labels"
            + " likewise, whose entries are not made; the phase is 1 (building).")
    static void promise21_labelsLikewiseWithoutEntries(Check check) {
        CircuitDesk desk = Check.desk("node 1;node 1;node 3;link 0 1 9 1;link 1 2 9 1;"
                + "link 0 2 9 1;circuit 1 0 0 1;circuit 1 0 0 2;");
        check.due("phase before", desk.circuit(1, 4), 0);
        check.due("move", Nets.move(desk, 1, 0, 1, 2), 0);
        check.due("lender of the second node", desk.way(1, true, 1, 1), 2);
        check.due("its label", desk.way(1, true, 1, 2), 2);
        check.due("the last node's label", desk.way(1, true, 2, 2), 1);
        check.due("no label of the first node", desk.way(1, true, 0, 2), -1);
        check.due("entry of the second node", desk.label(2, 2, 3), 0);
        check.due("entry of the last node", desk.label(2, 1, 3), 0);
        check.due("phase", desk.circuit(1, 4), 1);
    }

    @Sentence(in = "OPENING AND MOVING", says = "In each tick one entry is made, from the last node"
            + " of the new way back to its second one.")
    static void promise25_oneEntryATickFromTheLastNodeToTheSecond(Check check) {
        CircuitDesk desk = Check.desk(ring(1, 1) + "circuit 1 0 0 5;");
        Nets.move(desk, 0, 0, 1, 2, 3, 4, 5);
        for (int ticks = 0; ticks <= 5; ticks++) {
            check.due("entries to make", desk.circuit(0, 14), 5 - ticks);
            for (int n = 1; n <= 5; n++) {
                int label = desk.way(0, true, n, 2);
                check.due("entry of " + n + " after " + ticks, desk.label(n, label, 3),
                        n > 5 - ticks ? 1 : 0);
            }
            desk.run(1);
        }
    }

    @Sentence(in = "OPENING AND MOVING", says = "In the tick behind the last of these the circuit"
            + " switches over: the phase is 2 (draining)")
    static void promise25_switchesOverInTheTickBehindTheLastEntry(Check check) {
        CircuitDesk few = Check.desk(ring(1, 1) + "circuit 1 0 " + LONG);
        Nets.move(few, 0, 0, 5);
        few.run(1);
        check.due("phase after the last of 1 entry", few.circuit(0, 4), 1);
        few.run(1);
        check.due("phase in the tick behind", few.circuit(0, 4), 2);
        CircuitDesk many = Check.desk(ring(1, 1) + "circuit 1 0 0 5;");
        Nets.move(many, 0, 0, 1, 2, 3, 4, 5);
        many.run(5);
        check.due("phase after the last of 5 entries", many.circuit(0, 4), 1);
        many.run(1);
        check.due("phase in the tick behind", many.circuit(0, 4), 2);
    }

    @Sentence(in = "OPENING AND MOVING", says = "and it lasts as many ticks as the delay of the old"
            + " way is, from the next tick on")
    static void promise25_drainsAsManyTicksAsTheOldDelay(Check check) {
        CircuitDesk one = Check.desk(ring(1, 1) + "circuit 1 0 0 5;");
        Nets.move(one, 0, 0, 1, 2, 3, 4, 5);
        one.run(6);
        check.due("phase in the tick of switching over", one.circuit(0, 4), 2);
        check.due("ticks left of a delay of 1", one.circuit(0, 12), 1);
        one.run(1);
        check.due("phase in the next tick", one.circuit(0, 4), 3);
        CircuitDesk most = Check.desk(ring(9, 1) + "circuit 1 0 " + LONG);
        Nets.move(most, 0, 0, 5);
        most.run(2);
        check.due("ticks left of a delay of 45", most.circuit(0, 12), 45);
        most.run(44);
        check.due("phase after 44 ticks", most.circuit(0, 4), 2);
        check.due("ticks left", most.circuit(0, 12), 1);
        most.run(1);
        check.due("phase after 45 ticks", most.circuit(0, 4), 3);
        check.due("ticks left", most.circuit(0, 12), 0);
    }

    /** A circuit with one packet in its backlog, in the tick in which it has switched over. */
    private static CircuitDesk switched(String net, int order, int... nodes) {
        CircuitDesk desk = Check.desk(net + "set 1 " + order + ";");
        Nets.move(desk, 0, nodes);
        desk.run(nodes.length - 1);
        desk.offer(0, 1);
        desk.run(1);
        return desk;
    }

    @Sentence(in = "OPENING AND MOVING", says = "if ORDER is 1, the circuit is held for as many"
            + " ticks as the delay of the old way is greater than that of the new one (the first of"
            + " them passes in the tick in which it switches over).")
    static void promise25_heldForTheDifferenceOfTheDelays(Check check) {
        CircuitDesk by1 = switched(Nets.triangle(4, 9, 1, 1, 1) + "circuit 1 0 0 1 2;", 1, 0, 2);
        check.due("greater by 1: held", by1.circuit(0, 11), 0);
        check.due("greater by 1: sent in that tick", by1.circuit(0, 7), 0);
        by1.run(1);
        check.due("greater by 1: sent in the next tick", by1.circuit(0, 7), 1);
        CircuitDesk by2 = switched(Nets.triangle(4, 9, 1, 2, 1) + "circuit 1 0 0 1 2;", 1, 0, 2);
        check.due("greater by 2: held", by2.circuit(0, 11), 1);
        by2.run(1);
        check.due("greater by 2: held in the next tick", by2.circuit(0, 11), 0);
        check.due("greater by 2: sent in the next tick", by2.circuit(0, 7), 0);
        by2.run(1);
        check.due("greater by 2: sent in the tick behind", by2.circuit(0, 7), 1);
        CircuitDesk by44 = switched(ring(9, 1) + "circuit 1 0 " + LONG, 1, 0, 5);
        check.due("greater by 44: held", by44.circuit(0, 11), 43);
        by44.run(43);
        check.due("greater by 44: sent", by44.circuit(0, 7), 0);
        by44.run(1);
        check.due("greater by 44: sent", by44.circuit(0, 7), 1);
    }

    @Sentence(in = "OPENING AND MOVING",
            says = "as many ticks as the delay of the old way is greater than that of the new one")
    static void promise25_notHeldWithoutAGreaterOldDelay(Check check) {
        CircuitDesk same = switched(Nets.triangle(4, 9, 1, 1, 2) + "circuit 1 0 0 1 2;", 1, 0, 2);
        check.due("the same: held", same.circuit(0, 11), 0);
        check.due("the same: sent in that tick", same.circuit(0, 7), 1);
        CircuitDesk less = switched(Nets.triangle(4, 9, 1, 1, 9) + "circuit 1 0 0 1 2;", 1, 0, 2);
        check.due("less: held", less.circuit(0, 11), 0);
        check.due("less: sent in that tick", less.circuit(0, 7), 1);
    }

    @Sentence(in = "OPENING AND MOVING", says = "if ORDER is 1, the circuit is held")
    static void promise25_notHeldIfOrderIs0(Check check) {
        CircuitDesk free = switched(Nets.triangle(4, 9, 9, 9, 1) + "circuit 1 0 0 1 2;", 0, 0, 2);
        check.due("ORDER 0: held", free.circuit(0, 11), 0);
        check.due("ORDER 0: sent in that tick", free.circuit(0, 7), 1);
        free.set(1, 1);
        free.run(1);
        check.due("ORDER 1 behind it: held", free.circuit(0, 11), 0);
        CircuitDesk held = switched(Nets.triangle(4, 9, 9, 9, 1) + "circuit 1 0 0 1 2;", 1, 0, 2);
        check.due("ORDER 1: held", held.circuit(0, 11), 16);
        check.due("ORDER 1: sent in that tick", held.circuit(0, 7), 0);
    }

    @Sentence(in = "OPENING AND MOVING", says = "Then the phase is 3 (clearing): in each tick the"
            + " label of one node of the old way is given up, from the second node on to the last"
            + " one")
    static void promise25_oneLabelATickIsGivenUpFromTheSecondNodeOn(Check check) {
        CircuitDesk desk = Check.desk(ring(1, 1) + "circuit 1 0 " + LONG);
        Nets.move(desk, 0, 0, 5);
        desk.run(2 + 5);
        check.due("phase", desk.circuit(0, 4), 3);
        for (int ticks = 0; ticks <= 4; ticks++) {
            for (int i = 1; i <= 5; i++) {
                boolean isGivenUp = i <= ticks;
                String of = " of " + i + " after " + ticks;
                check.due("space" + of, desk.way(0, false, i, 1), isGivenUp ? -1 : i);
                check.due("label" + of, desk.way(0, false, i, 2), isGivenUp ? -1 : 0);
                check.due("who has it" + of, desk.label(i, 0, 0), isGivenUp ? -1 : i);
            }
            check.due("phase", desk.circuit(0, 4), 3);
            desk.run(1);
        }
        check.due("the last node's label", desk.label(5, 0, 0), -1);
    }

    @Sentence(in = "OPENING AND MOVING", says = "with the last of these the new way is the way of"
            + " the circuit, and the phase is 0.")
    static void promise25_withTheLastLabelTheNewWayIsTheWay(Check check) {
        CircuitDesk desk = Check.desk(ring(1, 1) + "circuit 1 0 " + LONG);
        Nets.move(desk, 0, 0, 5);
        desk.run(2 + 5 + 4);
        check.due("phase before the last one", desk.circuit(0, 4), 3);
        check.due("the old way", desk.way(0, false, 1, 0), 1);
        check.due("the new way", desk.way(0, true, 1, 0), 5);
        check.due("moves completed", desk.count(14), 0);
        desk.run(1);
        check.due("phase with the last one", desk.circuit(0, 4), 0);
        check.due("the way", desk.way(0, false, 1, 0), 5);
        check.due("its label", desk.way(0, false, 1, 2), 1);
        check.due("no new way", desk.way(0, true, 0, 0), -1);
        check.due("moves completed", desk.count(14), 1);
        CircuitDesk one = Check.desk(ring(1, 1) + "circuit 1 0 0 5;");
        Nets.move(one, 0, 0, 1, 2, 3, 4, 5);
        one.run(5 + 1 + 1);
        check.due("phase before the only one", one.circuit(0, 4), 3);
        one.run(1);
        check.due("phase with the only one", one.circuit(0, 4), 0);
    }

    @Sentence(in = "OPENING AND MOVING", says = "The active way is the old one in the phases 0 and"
            + " 1, and the new one in the phases 2 and 3.")
    static void promise26_theActiveWay(Check check) {
        CircuitDesk desk = Check.desk(Nets.triangle(4, 9, 2, 3, 7) + "circuit 1 0 0 1 2;");
        check.due("phase 0", desk.circuit(0, 5), 5);
        Nets.move(desk, 0, 0, 2);
        int[] phases = {1, 1, 2, 2, 2, 2, 2, 3, 3, 0};
        for (int phase : phases) {
            check.due("phase", desk.circuit(0, 4), phase);
            check.due("delay in phase " + phase, desk.circuit(0, 5), phase == 1 ? 5 : 7);
            desk.run(1);
        }
    }

    @Sentence(in = "OPENING AND MOVING", says = "A move can be aborted in the phase 1: all labels"
            + " of the new way are given up at once, and the phase is 0.")
    static void promise23_aMoveCanBeAbortedInPhase1(Check check) {
        for (int ticks = 0; ticks <= 2; ticks++) {
            CircuitDesk desk = Check.desk(Nets.triangle(4, 9, 1, 1, 9) + "circuit 1 0 0 2;");
            Nets.move(desk, 0, 0, 1, 2);
            if (ticks > 0) {
                desk.run(ticks);
            }
            check.due("phase after " + ticks, desk.circuit(0, 4), 1);
            check.due("labels of node 1", desk.node(1, 2), 1);
            check.due("labels of node 2", desk.node(2, 2), 2);
            check.due("abort after " + ticks, desk.abort(0), 0);
            check.due("phase", desk.circuit(0, 4), 0);
            check.due("labels of node 1", desk.node(1, 2), 0);
            check.due("labels of node 2", desk.node(2, 2), 1);
            check.due("label of the way", desk.label(2, 0, 0), 2);
        }
        CircuitDesk desk = Check.desk(Nets.triangle(4, 9, 1, 1, 9) + "circuit 1 0 0 2;");
        check.due("abort in phase 0", desk.abort(0), 7);
        Nets.move(desk, 0, 0, 1, 2);
        desk.run(3);
        for (int phase : new int[] {2, 2, 2, 2, 2, 2, 2, 2, 2, 3, 0}) {
            check.due("phase", desk.circuit(0, 4), phase);
            check.due("abort in phase " + phase, desk.abort(0), 7);
            desk.run(1);
        }
    }

    // ---- PACKETS

    @Sentence(in = "PACKETS", says = "There are at most 60 packets on their ways")
    static void promise25_atMost60Packets(Check check) {
        check.due("packets of 59", Nets.packets(59).count(6), 59);
        check.due("packets of 60", Nets.packets(60).count(6), 60);
        CircuitDesk desk = Nets.packets(61);
        check.due("packets of 61", desk.count(6), 60);
        check.due("sent of 61", desk.count(7), 60);
        check.due("the 61st waits", desk.circuit(4, 6), 1);
    }

    @Sentence(in = "PACKETS", says = "ordered by the times at which they were sent, then by"
            + " circuits.")
    static void promise28_packetsAreOrderedByTimesThenByCircuits(Check check) {
        CircuitDesk desk = Check.desk(Nets.pair(4, 9, 9) + Nets.times(3, "circuit 1 0 0 1;"));
        desk.offer(2, 2);
        desk.run(1);
        desk.offer(1, 1);
        desk.offer(0, 1);
        desk.run(1);
        int[][] due = {{2, 0}, {0, 0}, {1, 0}, {2, 1}};
        for (int p = 0; p < due.length; p++) {
            check.due("circuit of packet " + p, desk.packet(p, 0), due[p][0]);
            check.due("number of packet " + p, desk.packet(p, 1), due[p][1]);
        }
    }

    @Sentence(in = "PACKETS", says = "A packet is on a link, with the label that it has for the"
            + " node to which it goes, and some ticks that it still takes.")
    static void promise28_aPacketIsOnALinkWithALabel(Check check) {
        CircuitDesk desk = Check.desk(Nets.row(3, 4, 9, 2) + "circuit 1 0 2 1;circuit 1 0 0 1 2;");
        desk.offer(1, 1);
        int[][] due = {{0, 1, 1, 1, 2}, {0, 1, 1, 1, 1}, {1, 2, 2, 0, 2}, {1, 2, 2, 0, 1}};
        for (int[] row : due) {
            desk.run(1);
            for (int what = 2; what <= 6; what++) {
                check.due("packet(0, " + what + ")", desk.packet(0, what), row[what - 2]);
            }
        }
    }

    @Sentence(in = "PACKETS", says = "The packets of a circuit are numbered from 0 in the order in"
            + " which they are sent.")
    static void promise28_packetsAreNumberedFrom0(Check check) {
        CircuitDesk desk = Check.desk(Nets.pair(4, 9, 9) + "circuit 1 0 0 1;circuit 1 0 0 1;");
        desk.offer(0, 3);
        desk.run(1);
        desk.setUp(0, false);
        desk.run(1);
        desk.setUp(0, true);
        desk.offer(1, 1);
        desk.run(1);
        check.due("the third one, behind two that are lost", desk.packet(0, 1), 2);
        check.due("the first one of another circuit", desk.packet(1, 1), 0);
    }

    @Sentence(in = "PACKETS", says = "A circuit has a backlog of 0 to 9 packets.")
    static void promise24_backlogOf0To9(Check check) {
        CircuitDesk desk = Nets.circuits(1);
        check.due("at first", desk.circuit(0, 6), 0);
        check.due("offer(0, 9)", desk.offer(0, 9), 9);
        check.due("offer(0, 1)", desk.offer(0, 1), 9);
        check.due("dropped", desk.count(10), 1);
        desk.run(9);
        check.due("when all are sent", desk.circuit(0, 6), 0);
        desk.run(1);
        check.due("with none to send", desk.circuit(0, 6), 0);
    }

    // ---- A TICK

    @Sentence(in = "A TICK", says = {"The time is the number of ticks that have passed.",
        "The time is t + 1."})
    static void promise25_theTimeIsTheNumberOfTicks(Check check) {
        CircuitDesk desk = new CircuitDesk();
        check.due("at first", desk.count(5), 0);
        desk.run(1);
        check.due("after 1", desk.count(5), 1);
        desk.run(200);
        check.due("after 201", desk.count(5), 201);
        check.dueIllegalArgument("run(0)", () -> desk.run(0));
        check.due("after run(0)", desk.count(5), 201);
    }

    @Sentence(in = "A TICK", says = {"each packet, in their order, takes one tick less.",
        "If none is left, it is at the node to which it goes"})
    static void promise25_eachPacketTakesOneTickLess(Check check) {
        for (int delay = 1; delay <= 9; delay += 4) {
            CircuitDesk desk = Check.desk(Nets.row(3, 4, 9, delay) + "circuit 1 0 0 1 2;");
            desk.offer(0, 1);
            desk.run(1);
            for (int left = delay; left > 0; left--) {
                check.due("the node to which it goes", desk.packet(0, 3), 1);
                check.due("ticks left", desk.packet(0, 6), left);
                desk.run(1);
            }
            check.due("none was left: the next node", desk.packet(0, 3), 2);
            check.due("ticks left", desk.packet(0, 6), delay);
        }
    }

    /** No run of calls brings a packet to a node without a made entry: the last one that was sent
     * on the old way still finds each of its entries, with one tick of the draining left. */
    @Sentence(in = "A TICK", says = "if that has no made entry for its label, the packet is lost")
    static void promise25_theLastPacketOfTheOldWayFindsItsEntries(Check check) {
        for (int second = 1; second <= 9; second += 2) {
            CircuitDesk desk = Check.desk(Nets.triangle(4, 9, 1, second, 1) + "circuit 1 1 0 1 2;");
            Nets.move(desk, 0, 0, 2);
            desk.run(2);
            while (desk.circuit(0, 12) > 2) {
                desk.run(1);
            }
            check.due("the last one goes to", desk.packet(0, 3), 2);
            check.due("with the label", desk.packet(0, 5), 0);
            check.due("and is there in the tick", desk.packet(0, 6), 1);
            desk.run(1);
            check.due("it is delivered", desk.circuit(0, 8), desk.circuit(0, 7) - 1);
            desk.run(200);
            check.due("lost", desk.count(9), 0);
        }
    }

    @Sentence(in = "A TICK",
            says = "if the node is the last one of the way, the packet is delivered (at t + 1)")
    static void promise29_deliveredAtTPlus1(Check check) {
        CircuitDesk quick = Check.desk(Nets.pair(1, 9, 1) + "circuit 1 0 0 1;");
        quick.offer(0, 1);
        check.due("the tick of sending", quick.run(1), 0);
        check.due("the next tick", quick.run(1), 1);
        check.dueD("from sending to delivery", quick.meanDelay(0), 1.0);
        CircuitDesk slow = Check.desk(ring(9, 1) + "circuit 1 0 " + LONG);
        slow.offer(0, 1);
        check.due("up to the tick before", slow.run(45), 0);
        check.due("the 45th tick behind the sending", slow.run(1), 1);
        check.dueD("from sending to delivery", slow.meanDelay(0), 45.0);
    }

    @Sentence(in = "A TICK", says = "otherwise it goes on the link to the next node with the label"
            + " of that one, and takes the DELAY of the link; if the link is down, it is lost.")
    static void promise25_goesOnTheNextLinkOrIsLost(Check check) {
        String net = Nets.triangle(4, 9, 2, 9, 1) + "circuit 1 0 0 2;circuit 1 0 0 1 2;";
        CircuitDesk desk = Check.desk(net);
        desk.offer(1, 1);
        desk.run(3);
        int[] due = {1, 0, 1, 2, 2, 1, 9};
        for (int what = 0; what <= 6; what++) {
            check.due("packet(0, " + what + ")", desk.packet(0, what), due[what]);
        }
        CircuitDesk down = Check.desk(net);
        down.offer(1, 1);
        down.run(1);
        down.setUp(1, false);
        down.run(1);
        check.due("not lost on the link before", down.count(9), 0);
        down.run(1);
        check.due("lost when it goes on the link", down.count(9), 1);
        check.due("packets left", down.count(6), 0);
        check.due("lost ones of the circuit", down.circuit(1, 9), 1);
        CircuitDesk mended = Check.desk(net);
        mended.offer(1, 1);
        mended.run(1);
        mended.setUp(1, false);
        mended.run(1);
        mended.setUp(1, true);
        mended.run(1);
        check.due("not lost if it is repaired before", mended.count(9), 0);
    }

    @Sentence(in = "A TICK", says = {"each circuit in a phase above 0, by ascending numbers, does"
            + " what is told above for one tick", "in the phase 1 it makes one entry, or, if all"
            + " are made, switches over", "in the phase 2 one of its ticks passes (if it is the"
            + " last one, the phase is 3)", "in the phase 3 one label is given up."})
    static void promise25_eachMovedCircuitTakesOneStep(Check check) {
        CircuitDesk desk = Check.desk(Nets.triangle(9, 9, 1, 2, 1)
                + Nets.times(4, "circuit 1 0 0 1 2;"));
        // 1 entry, switching over, 3 ticks to drain, 2 labels: the moves of 0, 1 and 2 begin two
        // ticks one behind the other, and 3 is not moved
        int[] phases = {1, 1, 2, 2, 2, 3, 3};
        int[] entries = {1, 0, 0, 0, 0, 0, 0};
        int[] drains = {0, 0, 3, 2, 1, 0, 0};
        int[] labels = {2, 2, 2, 2, 2, 2, 1};
        for (int tick = 0; tick <= 11; tick++) {
            if (tick == 0 || tick == 2 || tick == 4) {
                Nets.move(desk, tick / 2, 0, 2);
            }
            for (int c = 0; c <= 3; c++) {
                int step = tick - 2 * c;
                boolean isMoved = c < 3 && step >= 0 && step <= 6;
                String of = " of " + c + " at " + tick;
                check.due("phase" + of, desk.circuit(c, 4), isMoved ? phases[step] : 0);
                check.due("entries" + of, desk.circuit(c, 14), isMoved ? entries[step] : 0);
                check.due("draining" + of, desk.circuit(c, 12), isMoved ? drains[step] : 0);
                check.due("labels" + of, labelsOf(desk, c), isMoved ? labels[step] : step < 0
                        || c == 3 ? 2 : 1);
            }
            desk.run(1);
        }
    }

    private static int labelsOf(CircuitDesk desk, int circuit) {
        return (desk.way(circuit, false, 1, 2) < 0 ? 0 : 1)
                + (desk.way(circuit, false, 2, 2) < 0 ? 0 : 1);
    }

    @Sentence(in = "A TICK", says = "if its PERIOD is above 0 and divides t + 1, its backlog grows"
            + " by 1")
    static void promise25_periodAbove0ThatDividesTPlus1(Check check) {
        CircuitDesk desk = Check.desk(Nets.pair(9, 9, 1) + "circuit 1 0 0 1;circuit 1 1 0 1;"
                + "circuit 1 2 0 1;circuit 1 9 0 1;");
        for (int time = 1; time <= 19; time++) {
            desk.run(1);
            check.due("PERIOD 0 at " + time, desk.circuit(0, 7), 0);
            check.due("PERIOD 1 at " + time, desk.circuit(1, 7), time);
            check.due("PERIOD 2 at " + time, desk.circuit(2, 7), time / 2);
            check.due("PERIOD 9 at " + time, desk.circuit(3, 7), time < 9 ? 0 : time < 18 ? 1 : 2);
        }
    }

    @Sentence(in = "A TICK", says = "(above 9 the packet is dropped).")
    static void promise25_above9ThePacketIsDropped(Check check) {
        CircuitDesk desk = Check.desk(Nets.pair(9, 9, 1) + "circuit 1 1 0 1;");
        desk.offer(0, 8);
        desk.run(1);
        check.due("8 and 1: dropped", desk.count(10), 0);
        check.due("8 and 1: backlog when one is sent", desk.circuit(0, 6), 8);
        desk.offer(0, 1);
        desk.run(1);
        check.due("9 and 1: dropped", desk.count(10), 1);
        check.due("9 and 1: backlog when one is sent", desk.circuit(0, 6), 8);
    }

    @Sentence(in = "A TICK", says = "Then, if it is held, one of the ticks for which it is held"
            + " passes")
    static void promise25_whileItIsHeldNothingIsSent(Check check) {
        CircuitDesk desk = Check.desk(Nets.triangle(9, 9, 2, 2, 1) + "circuit 1 1 0 1 2;set 1 1;");
        Nets.move(desk, 0, 0, 2);
        desk.run(1);
        check.due("sent before", desk.circuit(0, 7), 1);
        for (int held = 2; held >= 0; held--) {
            desk.run(1);
            check.due("ticks for which it is held", desk.circuit(0, 11), held);
            check.due("sent", desk.circuit(0, 7), 1);
            check.due("the backlog grows", desk.circuit(0, 6), 3 - held);
        }
        desk.run(1);
        check.due("sent behind it", desk.circuit(0, 7), 2);
        check.due("backlog", desk.circuit(0, 6), 3);
    }

    @Sentence(in = "A TICK", says = "otherwise, if the backlog is above 0 and there are fewer than"
            + " 60 packets, a packet is sent (at t + 1)")
    static void promise25_sentIfThereAreFewerThan60Packets(Check check) {
        CircuitDesk desk = Nets.packets(58);
        desk.offer(6, 1);
        desk.run(1);
        check.due("a 59th", desk.count(6), 59);
        check.due("time", desk.count(5), 9);
        CircuitDesk last = Nets.packets(58);
        last.offer(5, 1);
        last.offer(6, 2);
        last.run(1);
        check.due("a 59th and a 60th", last.count(6), 60);
        check.due("both are sent", last.circuit(6, 6), 1);
        CircuitDesk over = Nets.packets(58);
        over.offer(5, 1);
        over.offer(6, 1);
        over.offer(7, 1);
        over.run(1);
        check.due("no 61st", over.count(6), 60);
        check.due("it waits", over.circuit(7, 6), 1);
        CircuitDesk none = Nets.circuits(1);
        none.run(1);
        check.due("the backlog is 0", none.count(7), 0);
        none.offer(0, 1);
        none.run(1);
        check.due("the backlog is 1", none.count(7), 1);
        none.run(1);
        check.due("the backlog is 0 again", none.count(7), 1);
    }

    @Sentence(in = "A TICK", says = "there are fewer than 60 packets")
    static void promise25_aPacketThatIsDeliveredMakesRoomInTheSameTick(Check check) {
        // 60 packets, eight of each of the first ticks, are on two links of 9 ticks
        CircuitDesk desk = Nets.packets(61);
        desk.run(9);
        check.due("packets before the first ones are delivered", desk.count(6), 60);
        check.due("one waits", desk.circuit(4, 6), 1);
        desk.run(1);
        check.due("time", desk.count(5), 18);
        check.due("delivered at 18", desk.count(8), 0);
        check.due("delivered at 19", desk.run(1), 8);
        check.due("the one that waited is sent", desk.circuit(4, 6), 0);
        check.due("packets", desk.count(6), 53);
    }

    @Sentence(in = "A TICK", says = "the backlog is 1 less, and the packet is on the first link of"
            + " the active way with the label of its second node and takes the DELAY of this link")
    static void promise25_thePacketIsOnTheFirstLinkOfTheActiveWay(Check check) {
        CircuitDesk desk = Check.desk(Nets.triangle(9, 9, 3, 4, 8) + "circuit 1 0 0 1;"
                + "circuit 1 0 0 1 2;");
        Nets.move(desk, 1, 0, 2);
        desk.run(1);
        desk.offer(1, 3);
        desk.run(1); // it switches over before a packet is sent
        int[] due = {1, 0, 2, 2, 2, 1, 8};
        for (int what = 0; what <= 6; what++) {
            check.due("packet(0, " + what + ")", desk.packet(0, what), due[what]);
        }
        check.due("backlog", desk.circuit(1, 6), 2);
        CircuitDesk old = Check.desk(Nets.triangle(9, 9, 3, 4, 8) + "circuit 1 0 0 1;"
                + "circuit 1 0 0 1 2;");
        Nets.move(old, 1, 0, 2);
        old.offer(1, 3);
        old.run(1); // one entry is made; the old way is the active one
        int[] dueOld = {1, 0, 0, 1, 1, 1, 3};
        for (int what = 0; what <= 6; what++) {
            check.due("packet(0, " + what + ")", old.packet(0, what), dueOld[what]);
        }
    }

    @Sentence(in = "A TICK", says = "if the link is down, it is lost at once.")
    static void promise25_lostAtOnceIfTheFirstLinkIsDown(Check check) {
        CircuitDesk desk = Check.desk(Nets.row(3, 9, 9, 1) + "circuit 1 0 0 1 2;");
        desk.offer(0, 2);
        desk.setUp(0, false);
        desk.run(1);
        check.due("sent", desk.circuit(0, 7), 1);
        check.due("lost", desk.circuit(0, 9), 1);
        check.due("packets", desk.count(6), 0);
        check.due("backlog", desk.circuit(0, 6), 1);
        desk.setUp(0, true);
        desk.setUp(1, false); // the second link is not asked for yet
        desk.run(1);
        check.due("sent", desk.circuit(0, 7), 2);
        check.due("lost", desk.circuit(0, 9), 1);
        check.due("packets", desk.count(6), 1);
        check.due("the number of the second one", desk.packet(0, 1), 1);
    }

    @Sentence(in = "A TICK", says = "A packet that is delivered behind one of its circuit with a"
            + " greater number that was delivered already is late.")
    static void promise26_lateBehindAGreaterNumber(Check check) {
        CircuitDesk desk = Check.desk(Nets.triangle(4, 9, 5, 1, 1) + "circuit 1 1 0 1 2;");
        desk.run(10);
        Nets.move(desk, 0, 0, 2);
        desk.run(3);
        // 6 comes on the old way and 11 on the new one in this tick, 6 ahead of it
        check.due("delivered", desk.circuit(0, 8), 8);
        check.due("late ahead of the greater number", desk.circuit(0, 10), 0);
        desk.run(1);
        check.due("late behind the greater number", desk.circuit(0, 10), 1);
        desk.run(3);
        check.due("late with the last one of the old way", desk.circuit(0, 10), 4);
        desk.run(9);
        check.due("those behind are not late", desk.circuit(0, 10), 4);
        check.due("late in all", desk.count(11), 4);
    }

    @Sentence(in = "A TICK", says = "behind one of its circuit with a greater number that was"
            + " delivered already")
    static void promise26_notLateBehindAnotherCircuitOrALostOne(Check check) {
        CircuitDesk other = Check.desk(Nets.triangle(4, 9, 5, 1, 1) + "circuit 1 1 0 1 2;"
                + "circuit 1 1 0 2;");
        other.run(30);
        check.due("greater numbers of another circuit", other.count(11), 0);
        CircuitDesk lost = Check.desk(Nets.triangle(4, 9, 5, 1, 2) + "circuit 1 1 0 1 2;");
        lost.run(10);
        Nets.move(lost, 0, 0, 2);
        lost.run(2);
        lost.setUp(2, false);
        check.due("a greater number is lost", lost.count(9), 1);
        lost.run(10);
        check.due("delivered on the old way", lost.count(8), 11);
        check.due("late behind none that was delivered", lost.count(11), 0);
    }

    // ---- FAILING LINKS

    @Sentence(in = "FAILING LINKS",
            says = "If a link fails, it is down, and all packets on it are lost.")
    static void promise09_allPacketsOnAFailingLinkAreLost(Check check) {
        CircuitDesk desk = Check.desk(Nets.row(3, 4, 9, 3) + "circuit 1 1 0 1 2;circuit 1 0 1 0;");
        desk.offer(1, 1);
        desk.run(6);
        check.due("on link 0", desk.link(0, 6), 3);
        check.due("on link 1", desk.link(1, 6), 3);
        desk.setUp(0, false);
        check.due("down", desk.link(0, 4), 0);
        check.due("lost", desk.count(9), 3);
        check.due("lost ones of its circuit", desk.circuit(0, 9), 3);
        check.due("on link 0", desk.link(0, 6), 0);
        check.due("on link 1", desk.link(1, 6), 3);
        check.due("the packets that are left begin with", desk.packet(0, 1), 0);
        desk.setUp(0, false);
        check.due("no more are lost by a link that is down", desk.count(9), 3);
        CircuitDesk both = Check.desk(Nets.pair(4, 9, 9) + "circuit 1 0 0 1;circuit 1 0 1 0;");
        both.offer(0, 1);
        both.offer(1, 1);
        both.run(1);
        both.setUp(0, false);
        check.due("lost in both directions", both.count(9), 2);
        CircuitDesk full = Nets.packets(60);
        full.setUp(0, false);
        check.due("60 are lost", full.count(9), 60);
        check.due("none is left", full.count(6), 0);
        CircuitDesk none = Nets.circuits(1);
        none.setUp(0, false);
        check.due("none is lost", none.count(9), 0);
    }

    @Sentence(in = "FAILING LINKS", says = "all packets on it are lost.")
    static void promise09_thePacketsOnOtherLinksStayInTheirOrder(Check check) {
        CircuitDesk desk = Check.desk(Nets.row(3, 4, 9, 2) + "circuit 1 1 0 1 2;circuit 1 1 1 2;"
                + "circuit 1 1 0 1;");
        desk.run(3);
        check.due("on link 0", desk.link(0, 6), 4);
        check.due("on link 1", desk.link(1, 6), 3);
        desk.setUp(1, false);
        int[][] due = {{0, 1}, {2, 1}, {0, 2}, {2, 2}};
        check.due("packets", desk.count(6), due.length);
        for (int p = 0; p < due.length; p++) {
            check.due("circuit of packet " + p, desk.packet(p, 0), due[p][0]);
            check.due("number of packet " + p, desk.packet(p, 1), due[p][1]);
            check.due("link of packet " + p, desk.packet(p, 2), 0);
        }
    }

    @Sentence(in = "FAILING LINKS", says = "If it is repaired, it is up.")
    static void promise09_aRepairedLinkIsUp(Check check) {
        CircuitDesk desk = Check.desk(Nets.pair(4, 9, 3) + "circuit 1 1 0 1;");
        desk.run(1);
        desk.setUp(0, true);
        check.due("one that is up is up", desk.link(0, 4), 1);
        check.due("nothing is lost", desk.link(0, 6), 1);
        desk.setUp(0, false);
        desk.setUp(0, true);
        check.due("one that was down is up", desk.link(0, 4), 1);
        check.due("what was lost is lost", desk.count(9), 1);
        desk.run(4);
        check.due("it carries packets again", desk.count(8), 1);
    }
}
