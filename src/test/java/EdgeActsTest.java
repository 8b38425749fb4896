import java.io.IOException;

/** The promises 19 to 24, sentence by sentence. */
public final class EdgeActsTest {
    private static final int LEAST = Integer.MIN_VALUE;
    private static final int MOST = Integer.MAX_VALUE;
    private static final int[] NO_CIRCUITS = {LEAST, -1, 8, MOST};

    public static void main(String[] args) throws IOException {
        Edges.run(EdgeActsTest.class, args);
    }

    // ---- Promise 19

    @Sentence(in = "Promise 19", says = {"acts: 0 if it is done, otherwise the reason",
        "Returns 0, or the reason (1; 3 if the draft has fewer than 2 nodes; 5, 6)."})
    static void promise19_returns0OrTheReason(Check check) {
        CircuitDesk desk = Check.desk(Nets.pair(1, 20, 1) + "set 0 0;");
        check.due("0 nodes", desk.open(20, 0), 3);
        desk.draft(0);
        check.due("1 node", desk.open(20, 0), 3);
        desk.draft(1);
        check.due("2 nodes", desk.open(20, 0), 0);
        Check.draft(desk, 0, 1);
        check.due("no room", desk.open(1, 0), 5);
        desk.close(0);
        desk.open(19, 0);
        Check.draft(desk, 0, 1);
        check.due("no label", desk.open(1, 0), 6);
        CircuitDesk full = Nets.circuits(8);
        check.due("a 9th", Nets.open(full, 1, 0, 1), 1);
    }

    @Sentence(in = "Promise 19", says = "Opens a circuit along the draft, which is empty then; it"
            + " is the last one, with an empty backlog.")
    static void promise19_theDraftIsEmptyThenAndItIsTheLastOne(Check check) {
        CircuitDesk desk = Check.desk(Nets.row(6, 4, 99, 1));
        for (int c = 0; c <= 7; c++) {
            Check.draft(desk, c % 2 == 0 ? new int[] {1, 0} : new int[] {0, 1, 2, 3});
            check.due("open", desk.open(c + 1, 0), 0);
            check.due("nodes of the draft", desk.count(16), 0);
            check.due("the first node of the draft", desk.draftNode(0), -1);
            check.due("BAND of the last one", desk.circuit(c, 2), c + 1);
            check.due("its backlog", desk.circuit(c, 6), 0);
            check.due("its last node", desk.circuit(c, 1), c % 2 == 0 ? 0 : 3);
            desk.offer(c, 9);
        }
        check.due("BAND of the first one", desk.circuit(0, 2), 1);
        Check.draft(desk, 0, 1);
        check.due("a refused one", desk.open(1, 0), 1);
        check.due("the draft stays", desk.count(16), 2);
    }

    @Sentence(in = "Promise 19", says = "with an empty backlog.")
    static void promise19_nothingIsLeftOfAClosedOne(Check check) {
        CircuitDesk desk = Check.desk(Nets.pair(1, 9, 1) + "circuit 1 0 0 1;");
        desk.offer(0, 9);
        check.due("close with a backlog", desk.close(0), 8);
        desk.run(10);
        check.due("close", desk.close(0), 0);
        Nets.open(desk, 1, 0, 1);
        for (int what = 6; what <= 14; what++) {
            check.due("circuit(0, " + what + ") anew", desk.circuit(0, what), 0);
        }
        check.dueD("meanDelay anew", desk.meanDelay(0), -1.0);
    }

    @Sentence(in = "Promise 19", says = "Opens a circuit along the draft")
    static void promise19_aCircuitBeginsAnewWhateverWasThere(Check check) {
        for (int ticks = 0; ticks <= 9; ticks++) {
            CircuitDesk desk = Nets.rich(ticks);
            desk.save(0);
            Check.load(desk, Nets.triangle(4, 9, 5, 1, 1));
            desk.save(1);
            desk.restore(0);
            desk.restore(1);
            check.due("open", Nets.open(desk, 7, 0, 2), 0);
            int[] due = {0, 2, 7, 0, 0, 1, 0, 0, 0, 0, 0, 0, 0, 0, 0};
            for (int what = 0; what <= 14; what++) {
                check.due("circuit(0, " + what + ")", desk.circuit(0, what), due[what]);
            }
            check.dueD("meanDelay", desk.meanDelay(0), -1.0);
            check.due("no new way", desk.way(0, true, 0, 0), -1);
            check.due("the way", desk.way(0, false, 2, 0), -1);
            Nets.move(desk, 0, 0, 1, 2);
            desk.offer(0, 1);
            desk.run(2);
            check.dueD("meanDelay of the first one", desk.meanDelay(0), 1.0);
            check.due("late ones", desk.circuit(0, 10), 0);
        }
    }

    @Sentence(in = "Promise 19", says = "band: 1 to 20")
    static void promise19_band1To20(Check check) {
        CircuitDesk desk = Check.desk(Nets.pair(4, 99, 1));
        Check.draft(desk, 0, 1);
        check.dueIllegalArgument("BAND 0", () -> desk.open(0, 0));
        check.dueIllegalArgument("BAND 21", () -> desk.open(21, 0));
        check.due("the draft stays", desk.count(16), 2);
        check.due("BAND 20", desk.open(20, 0), 0);
        Check.draft(desk, 0, 1);
        check.due("BAND 1", desk.open(1, 0), 0);
        check.due("BAND", desk.circuit(0, 2), 20);
        check.due("BAND", desk.circuit(1, 2), 1);
    }

    @Sentence(in = "Promise 19", says = "period: 0 to 9")
    static void promise19_period0To9(Check check) {
        CircuitDesk desk = Check.desk(Nets.pair(4, 99, 1));
        Check.draft(desk, 0, 1);
        check.dueIllegalArgument("PERIOD -1", () -> desk.open(1, -1));
        check.dueIllegalArgument("PERIOD 10", () -> desk.open(1, 10));
        check.due("PERIOD 9", desk.open(1, 9), 0);
        Check.draft(desk, 0, 1);
        check.due("PERIOD 0", desk.open(1, 0), 0);
        check.due("PERIOD", desk.circuit(0, 3), 9);
        check.due("PERIOD", desk.circuit(1, 3), 0);
    }

    @Sentence(in = "Promise 19",
            says = "Throws IllegalArgumentException if band or period is out of range")
    static void promise19_throwsIfBandOrPeriodIsOutOfRange(Check check) {
        CircuitDesk desk = Check.desk(Nets.pair(4, 99, 1));
        for (int band : new int[] {LEAST, -1, 0, 21, MOST}) {
            check.dueIllegalArgument("no draft, BAND " + band, () -> desk.open(band, 0));
        }
        Check.draft(desk, 0, 1);
        for (int period : new int[] {LEAST, -1, 10, MOST}) {
            check.dueIllegalArgument("PERIOD " + period, () -> desk.open(1, period));
        }
        check.due("circuits", desk.count(4), 0);
        CircuitDesk full = Nets.circuits(8);
        check.dueIllegalArgument("a 9th, BAND 0", () -> full.open(0, 0));
        check.dueIllegalArgument("a 9th, PERIOD 10", () -> full.open(1, 10));
    }

    // ---- Promise 20

    @Sentence(in = "Promise 20", says = {"Closes a circuit: its labels are given up.",
        "Returns 0, or the reason (2, 8)."})
    static void promise20_itsLabelsAreGivenUp(Check check) {
        CircuitDesk desk = Check.desk(Nets.row(6, 2, 9, 1) + "circuit 1 0 0 1 2 3 4 5;"
                + "circuit 2 0 0 1 2 3 4 5;");
        check.due("close", desk.close(0), 0);
        for (int n = 1; n <= 5; n++) {
            check.due("its label at " + n, desk.label(n, 0, 0), -1);
            check.due("the other one's label at " + n, desk.label(n, 1, 0), n);
        }
        check.due("reserved", desk.link(0, 5), 2);
        check.due("close the last one", desk.close(0), 0);
        check.due("circuits", desk.count(4), 0);
        check.due("free labels", desk.node(5, 1), 2);
        CircuitDesk refused = Check.desk(Nets.triangle(4, 9, 1, 1, 1) + "circuit 1 0 0 1 2;"
                + "circuit 1 0 0 1;");
        refused.moveBest(0, -1);
        refused.offer(1, 1);
        check.due("moved", refused.close(0), 2);
        check.due("packets", refused.close(1), 8);
    }

    @Sentence(in = "Promise 20", says = "Closes a circuit")
    static void promise20_theOthersStayAsTheyAre(Check check) {
        CircuitDesk desk = Check.desk(Nets.pair(9, 9, 9) + "circuit 1 0 0 1;circuit 2 0 0 1;"
                + "circuit 3 0 0 1;");
        desk.offer(0, 2);
        desk.offer(2, 1);
        desk.run(1);
        check.due("close", desk.close(1), 0);
        check.due("circuit of the packet of 0", desk.packet(0, 0), 0);
        check.due("circuit of the packet of 2", desk.packet(1, 0), 1);
        check.due("open", Nets.open(desk, 2, 1, 0), 0);
        desk.offer(2, 7);
        int[][] due = {{1, 1, 1}, {3, 0, 1}, {2, 7, 0}};
        for (int c = 0; c <= 2; c++) {
            check.due("BAND of " + c, desk.circuit(c, 2), due[c][0]);
            check.due("backlog of " + c, desk.circuit(c, 6), due[c][1]);
            check.due("sent of " + c, desk.circuit(c, 7), due[c][2]);
        }
        check.due("first node of the others", desk.circuit(1, 0), 0);
        check.due("first node of the new one", desk.circuit(2, 0), 1);
    }

    @Sentence(in = "Promise 20", says = {"circuit: a circuit",
        "Throws IndexOutOfBoundsException if there is no such circuit"})
    static void promise20_throwsIfThereIsNoSuchCircuit(Check check) {
        CircuitDesk desk = Nets.circuits(8);
        for (int circuit : NO_CIRCUITS) {
            check.dueOutOfBounds("close(" + circuit + ")", () -> desk.close(circuit));
        }
        check.due("close(7)", desk.close(7), 0);
        check.dueOutOfBounds("close(7) again", () -> desk.close(7));
        check.due("close(0)", desk.close(0), 0);
        CircuitDesk none = new CircuitDesk();
        check.dueOutOfBounds("close(0) of none", () -> none.close(0));
    }

    // ---- Promise 21

    @Sentence(in = "Promise 21", says = {"Begins to move a circuit to the draft, which is empty"
            + " then.", "Returns 0, or the reason (2, 3, 4, 5, 6)."})
    static void promise21_theDraftIsEmptyThen(Check check) {
        CircuitDesk desk = Check.desk(Nets.triangle(4, 20, 1, 1, 1) + "circuit 9 0 0 1 2;"
                + "circuit 1 0 1 0;");
        Check.draft(desk, 0, 1, 2);
        check.due("refused", desk.move(0), 4);
        check.due("the draft stays", desk.count(16), 3);
        Check.draft(desk, 0, 2);
        check.due("done", desk.move(0), 0);
        check.due("the draft is empty", desk.count(16), 0);
        check.due("its first node", desk.draftNode(0), -1);
        check.due("the new way", desk.way(0, true, 1, 0), 2);
        check.due("the way", desk.way(0, false, 1, 0), 1);
        check.due("refused without a draft", desk.move(1), 3);
    }

    @Sentence(in = "Promise 21", says = {"circuit: a circuit",
        "Throws IndexOutOfBoundsException if there is no such circuit"})
    static void promise21_throwsIfThereIsNoSuchCircuit(Check check) {
        CircuitDesk desk = Nets.circuits(8);
        Check.draft(desk, 0, 1);
        for (int circuit : NO_CIRCUITS) {
            check.dueOutOfBounds("move(" + circuit + ")", () -> desk.move(circuit));
        }
        check.due("move(0)", desk.move(0), 4);
        check.due("move(7)", desk.move(7), 4);
        desk.close(0);
        check.dueOutOfBounds("move(7) of seven", () -> desk.move(7));
        check.due("the draft stays", desk.count(16), 2);
    }

    // ---- Promise 22

    @Sentence(in = "Promise 22", says = "Begins to move a circuit to the best way for it that does"
            + " not use a link.")
    static void promise22_theBestWayThatDoesNotUseALink(Check check) {
        // the best way is the link 3; without it the nodes 0, 1, 3, and without that 0, 2, 3
        String net = "node 4;node 4;node 4;node 4;link 0 1 9 1;link 1 3 9 2;link 0 2 9 2;"
                + "link 2 3 9 2;link 0 3 9 1;circuit 1 0 0 2 3;";
        int[] via = {3, 3, 3, 3, 1};
        for (int link = 0; link <= 4; link++) {
            CircuitDesk desk = Check.desk(net);
            check.due("without link " + link, desk.moveBest(0, link), 0);
            check.due("its second node", desk.way(0, true, 1, 0), via[link]);
        }
        CircuitDesk any = Check.desk(net);
        check.due("of all", any.moveBest(0, CircuitDesk.NONE), 0);
        check.due("its second node", any.way(0, true, 1, 0), 3);
    }

    @Sentence(in = "Promise 22", says = "The draft stays.")
    static void promise22_theDraftStays(Check check) {
        CircuitDesk desk = Check.desk(Nets.triangle(4, 9, 1, 1, 1) + "circuit 9 0 0 1 2;");
        Check.draft(desk, 2, 1, 0);
        check.due("moveBest", desk.moveBest(0, -1), 0);
        check.due("nodes of the draft", desk.count(16), 3);
        for (int i = 0; i <= 2; i++) {
            check.due("draftNode(" + i + ")", desk.draftNode(i), 2 - i);
        }
        check.due("moveBest, refused", desk.moveBest(0, -1), 2);
        check.due("nodes of the draft", desk.count(16), 3);
    }

    @Sentence(in = "Promise 22", says = "Returns 0, or the reason (2, 3, 4, 6).")
    static void promise22_returns0OrTheReason(Check check) {
        String net = Nets.triangle(1, 9, 1, 1, 3) + "set 0 0;circuit 5 0 0 1 2;";
        CircuitDesk desk = Check.desk(net);
        check.due("its way", desk.moveBest(0, -1), 4);
        check.due("its way, without a link that it does not use", desk.moveBest(0, 2), 4);
        check.due("no label", desk.moveBest(0, 0), 6);
        desk.setUp(2, false);
        check.due("no way", desk.moveBest(0, 0), 3);
        // a link without room is never of the best way: no reason 5
        CircuitDesk full = Check.desk(Nets.triangle(2, 9, 1, 1, 3) + "set 0 0;circuit 5 0 0 1 2;"
                + "circuit 5 0 2 0;");
        check.due("no room on the only other way", full.moveBest(0, 0), 3);
        full.close(1);
        check.due("room", full.moveBest(0, 0), 0);
        check.due("moved", full.moveBest(0, 0), 2);
    }

    @Sentence(in = "Promise 22", says = {"circuit: a circuit", "link: a link, or NONE", "Throws"
            + " IndexOutOfBoundsException if there is no such circuit, or link is no link and not"
            + " NONE"})
    static void promise22_throwsIfThereIsNoSuchCircuitOrLink(Check check) {
        CircuitDesk desk = Nets.circuits(8);
        for (int circuit : NO_CIRCUITS) {
            check.dueOutOfBounds("moveBest(" + circuit + ", NONE)",
                    () -> desk.moveBest(circuit, -1));
        }
        for (int link : new int[] {LEAST, -2, 1, 16, MOST}) {
            check.dueOutOfBounds("moveBest(0, " + link + ")", () -> desk.moveBest(0, link));
        }
        check.due("moveBest(0, NONE)", desk.moveBest(0, -1), 4);
        check.due("moveBest(7, 0)", desk.moveBest(7, 0), 3);
    }

    // ---- Promise 23

    @Sentence(in = "Promise 23", says = {"Aborts a move.", "Returns 0, or the reason (7)."})
    static void promise23_abortsAMove(Check check) {
        CircuitDesk desk = Check.desk(Nets.triangle(4, 9, 1, 1, 1) + "circuit 9 0 0 1 2;");
        check.due("none to abort", desk.abort(0), 7);
        desk.moveBest(0, -1);
        check.due("at once", desk.abort(0), 0);
        check.due("again", desk.abort(0), 7);
        check.due("no new way", desk.way(0, true, 0, 0), -1);
        check.due("the way stays", desk.way(0, false, 1, 0), 1);
        check.due("movedIn", desk.movedIn(0), 0);
        check.due("entries to make", desk.circuit(0, 14), 0);
        check.due("reserved on the new way", desk.link(2, 5), 0);
        desk.run(1);
        check.due("nothing is moved behind it", desk.circuit(0, 4), 0);
    }

    @Sentence(in = "Promise 23", says = {"circuit: a circuit",
        "Throws IndexOutOfBoundsException if there is no such circuit"})
    static void promise23_throwsIfThereIsNoSuchCircuit(Check check) {
        CircuitDesk desk = Nets.circuits(8);
        for (int circuit : NO_CIRCUITS) {
            check.dueOutOfBounds("abort(" + circuit + ")", () -> desk.abort(circuit));
        }
        check.due("abort(0)", desk.abort(0), 7);
        check.due("abort(7)", desk.abort(7), 7);
    }

    // ---- Promise 24

    @Sentence(in = "Promise 24", says = {"Puts packets into the backlog of a circuit.",
        "many: 1 to 9"})
    static void promise24_many1To9(Check check) {
        for (int many = 1; many <= 9; many += 4) {
            CircuitDesk desk = Nets.circuits(2);
            check.due("offer(1, " + many + ")", desk.offer(1, many), many);
            check.due("its backlog", desk.circuit(1, 6), many);
            check.due("another one's backlog", desk.circuit(0, 6), 0);
            check.due("none is on its way yet", desk.count(6), 0);
            check.due("none is dropped", desk.count(10), 0);
        }
        CircuitDesk desk = Nets.circuits(1);
        check.dueIllegalArgument("offer(0, 0)", () -> desk.offer(0, 0));
        check.dueIllegalArgument("offer(0, 10)", () -> desk.offer(0, 10));
    }

    @Sentence(in = "Promise 24",
            says = "Returns the backlog then; those above 9 are dropped.")
    static void promise24_thoseAbove9AreDropped(Check check) {
        int[][] rows = {{8, 1, 9, 0}, {1, 8, 9, 0}, {8, 2, 9, 1}, {9, 1, 9, 1}, {9, 9, 9, 9},
            {1, 9, 9, 1}, {4, 4, 8, 0}};
        for (int[] row : rows) {
            CircuitDesk desk = Nets.circuits(1);
            desk.offer(0, row[0]);
            check.due(row[1] + " behind " + row[0], desk.offer(0, row[1]), row[2]);
            check.due("its backlog", desk.circuit(0, 6), row[2]);
            check.due("dropped", desk.count(10), row[3]);
        }
    }

    @Sentence(in = "Promise 24", says = {"circuit: a circuit",
        "Throws IndexOutOfBoundsException if there is no such circuit"})
    static void promise24_throwsIfThereIsNoSuchCircuit(Check check) {
        CircuitDesk desk = Nets.circuits(8);
        for (int circuit : NO_CIRCUITS) {
            check.dueOutOfBounds("offer(" + circuit + ", 1)", () -> desk.offer(circuit, 1));
        }
        check.due("offer(0, 1)", desk.offer(0, 1), 1);
        check.due("offer(7, 1)", desk.offer(7, 1), 1);
    }

    @Sentence(in = "Promise 24", says = "Throws IllegalArgumentException if many is out of range")
    static void promise24_throwsIfManyIsOutOfRange(Check check) {
        CircuitDesk desk = Nets.circuits(1);
        for (int many : new int[] {LEAST, -1, 0, 10, 11, MOST}) {
            check.dueIllegalArgument("offer(0, " + many + ")", () -> desk.offer(0, many));
        }
        check.due("the backlog", desk.circuit(0, 6), 0);
        check.due("dropped", desk.count(10), 0);
    }
}
