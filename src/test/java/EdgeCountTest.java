import java.io.IOException;

/** The promise 11, sentence by sentence. */
public final class EdgeCountTest {
    private static final int LEAST = Integer.MIN_VALUE;
    private static final int MOST = Integer.MAX_VALUE;

    public static void main(String[] args) throws IOException {
        Edges.run(EdgeCountTest.class, args);
    }

    @Sentence(in = "Promise 11", says = {"0, 1: the settings", "Returns that number."})
    static void promise11_theSettings(Check check) {
        CircuitDesk desk = new CircuitDesk();
        for (int borrow = 0; borrow <= 4; borrow++) {
            desk.set(0, borrow);
            desk.set(1, borrow % 2);
            check.due("BORROW", desk.count(0), borrow);
            check.due("ORDER", desk.count(1), borrow % 2);
        }
    }

    @Sentence(in = "Promise 11", says = {"2: nodes", "3: links"})
    static void promise11_nodesAndLinks(Check check) {
        CircuitDesk desk = new CircuitDesk();
        for (int nodes = 0; nodes <= 10; nodes++) {
            check.due("nodes", desk.count(2), nodes);
            if (nodes < 10) {
                desk.addNode(1);
            }
        }
        for (int links = 0; links <= 16; links++) {
            check.due("links", desk.count(3), links);
            if (links < 16) {
                Nets.addLink(desk, links);
            }
        }
        check.dueIllegalState("an 11th node", () -> desk.addNode(1));
        check.due("nodes", desk.count(2), 10);
        check.dueIllegalState("a 17th link", () -> desk.addLink(0, 9, 9, 1));
        check.due("links", desk.count(3), 16);
    }

    @Sentence(in = "Promise 11", says = "4: circuits")
    static void promise11_circuits(Check check) {
        CircuitDesk desk = Nets.circuits(0);
        for (int circuits = 0; circuits <= 8; circuits++) {
            check.due("circuits", desk.count(4), circuits);
            Nets.open(desk, 1, 0, 1);
        }
        check.due("circuits behind a 9th", desk.count(4), 8);
        for (int circuits = 7; circuits >= 0; circuits--) {
            desk.close(0);
            check.due("circuits", desk.count(4), circuits);
        }
    }

    @Sentence(in = "Promise 11", says = "5: the time")
    static void promise11_theTime(Check check) {
        CircuitDesk desk = new CircuitDesk();
        check.due("the time", desk.count(5), 0);
        desk.run(200);
        check.due("the time", desk.count(5), 200);
        desk.ahead(200, 0);
        check.due("the time", desk.count(5), 200);
    }

    @Sentence(in = "Promise 11", says = "6: packets on their ways")
    static void promise11_packetsOnTheirWays(Check check) {
        check.due("none", Nets.packets(0).count(6), 0);
        check.due("1", Nets.packets(1).count(6), 1);
        check.due("60", Nets.packets(60).count(6), 60);
        CircuitDesk desk = Nets.circuits(1);
        desk.offer(0, 1);
        check.due("one in a backlog is not on its way", desk.count(6), 0);
        desk.run(1);
        check.due("one that is sent", desk.count(6), 1);
        desk.run(1);
        check.due("one that is delivered", desk.count(6), 0);
    }

    @Sentence(in = "Promise 11", says = {"7: packets that were sent", "8: delivered ones",
        "9: lost ones"})
    static void promise11_sentDeliveredAndLostOnes(Check check) {
        CircuitDesk desk = Check.desk(Nets.pair(4, 9, 2) + "circuit 1 0 0 1;circuit 1 0 1 0;");
        int[][] due = {{0, 0, 0}, {2, 0, 0}, {4, 0, 0}, {4, 2, 0}, {4, 4, 0}};
        desk.offer(0, 2);
        desk.offer(1, 2);
        for (int[] row : due) {
            fates(check, desk, row);
            desk.run(1);
        }
        desk.offer(0, 3);
        desk.run(1);
        desk.setUp(0, false);
        fates(check, desk, 5, 4, 1); // on a link that fails
        desk.run(1);
        fates(check, desk, 6, 4, 2); // sent to a link that is down
        desk.setUp(0, true);
        desk.run(3);
        fates(check, desk, 7, 5, 2);
    }

    private static void fates(Check check, CircuitDesk desk, int... due) {
        for (int what = 7; what < 7 + due.length; what++) {
            check.due("count(" + what + ") at " + desk.count(5), desk.count(what), due[what - 7]);
        }
    }

    @Sentence(in = "Promise 11", says = "10: dropped ones")
    static void promise11_droppedOnes(Check check) {
        CircuitDesk desk = Check.desk(Nets.pair(4, 9, 2) + "circuit 1 1 0 1;circuit 1 0 0 1;");
        desk.offer(0, 9);
        check.due("9 of 9", desk.count(10), 0);
        desk.offer(0, 1);
        check.due("a 10th", desk.count(10), 1);
        desk.offer(1, 9);
        desk.offer(1, 9);
        check.due("nine of another circuit", desk.count(10), 10);
        desk.run(1);
        check.due("one more by PERIOD", desk.count(10), 11);
        desk.run(1);
        check.due("none: 8 and 1", desk.count(10), 11);
        check.due("dropped ones are not lost", desk.count(9), 0);
    }

    @Sentence(in = "Promise 11", says = {"11: late ones",
        "(7 to 11: also those of circuits that were closed)"})
    static void promise11_alsoThoseOfClosedCircuits(Check check) {
        CircuitDesk desk = Check.desk(Nets.triangle(4, 9, 5, 1, 1) + "circuit 1 0 0 1 2;");
        Nets.move(desk, 0, 0, 2);
        desk.offer(0, 9);
        desk.offer(0, 2);
        // the packet 0 is sent on the old way, the others on the new one
        desk.run(10);
        desk.offer(0, 1);
        desk.run(1);
        desk.setUp(2, false);
        int[] due = {10, 9, 1, 2, 1};
        fates(check, desk, due);
        check.due("late one of the circuit", desk.circuit(0, 10), 1);
        check.due("close", desk.close(0), 0);
        fates(check, desk, due);
        desk.setUp(2, true);
        Nets.open(desk, 1, 0, 2);
        desk.offer(0, 1);
        desk.run(2);
        fates(check, desk, 11, 10, 1, 2, 1);
        check.due("sent of the new circuit", desk.circuit(0, 7), 1);
    }

    @Sentence(in = "Promise 11", says = "12: labels that are lent now")
    static void promise11_labelsThatAreLentNow(Check check) {
        CircuitDesk desk = Check.desk("node 3;node 1;node 1;link 0 1 99 1;link 0 2 99 1;set 0 2;"
                + "circuit 1 0 0 1;circuit 1 0 0 2;");
        check.due("none", desk.count(12), 0);
        Nets.open(desk, 1, 0, 1);
        check.due("1", desk.count(12), 1);
        Nets.open(desk, 1, 0, 2);
        Nets.open(desk, 1, 0, 1);
        check.due("all of a space", desk.count(12), 3);
        desk.close(4);
        check.due("2", desk.count(12), 2);
        desk.close(2);
        desk.close(2);
        check.due("none", desk.count(12), 0);
    }

    @Sentence(in = "Promise 11", says = "13: circuits in a phase above 0")
    static void promise11_circuitsInAPhaseAbove0(Check check) {
        CircuitDesk desk = Check.desk("node 9;node 9;node 12;" + "link 0 1 99 1;link 1 2 99 1;"
                + "link 0 2 99 1;" + Nets.times(6, "circuit 1 0 0 2;"));
        for (int moved = 0; moved <= 5; moved++) {
            check.due("in a phase above 0", desk.count(13), moved);
            check.due("moveBest(" + moved + ", 2)", desk.moveBest(moved, 2), 0);
        }
        check.due("all in the phase 1", desk.count(13), 6);
        desk.run(3);
        check.due("all in the phase 2", desk.count(13), 6);
        desk.run(1);
        check.due("phase of the last one", desk.circuit(5, 4), 3);
        check.due("all in the phase 3", desk.count(13), 6);
        desk.run(1);
        check.due("none", desk.count(13), 0);
        desk.moveBest(5, 0);
        check.due("1", desk.count(13), 1);
        desk.abort(5);
        check.due("none", desk.count(13), 0);
    }

    @Sentence(in = "Promise 11", says = "14: moves that were completed")
    static void promise11_movesThatWereCompleted(Check check) {
        CircuitDesk desk = Check.desk(Nets.triangle(4, 9, 1, 1, 1) + "circuit 1 0 0 1 2;");
        Nets.move(desk, 0, 0, 2);
        desk.abort(0);
        check.due("one that was aborted is none", desk.count(14), 0);
        Nets.move(desk, 0, 0, 2);
        desk.run(desk.movedIn(0) - 1);
        check.due("in the tick before", desk.count(14), 0);
        desk.run(1);
        check.due("in the last tick", desk.count(14), 1);
        Nets.move(desk, 0, 0, 1, 2);
        desk.run(desk.movedIn(0));
        check.due("the second one", desk.count(14), 2);
        desk.close(0);
        check.due("also of a circuit that was closed", desk.count(14), 2);
    }

    @Sentence(in = "Promise 11", says = "15: moves that were aborted")
    static void promise11_movesThatWereAborted(Check check) {
        CircuitDesk desk = Check.desk(Nets.triangle(4, 9, 1, 1, 1) + "circuit 1 0 0 1 2;");
        desk.abort(0);
        check.due("one that is refused is none", desk.count(15), 0);
        Nets.move(desk, 0, 0, 2);
        desk.abort(0);
        check.due("the first one", desk.count(15), 1);
        Nets.move(desk, 0, 0, 2);
        desk.run(2);
        desk.abort(0);
        check.due("one that has switched over is none", desk.count(15), 1);
        desk.run(desk.movedIn(0));
        desk.close(0);
        check.due("also of a circuit that was closed", desk.count(15), 1);
    }

    @Sentence(in = "Promise 11", says = "16: nodes of the draft")
    static void promise11_nodesOfTheDraft(Check check) {
        CircuitDesk desk = Check.desk(Nets.row(7, 1, 9, 1));
        for (int nodes = 0; nodes <= 6; nodes++) {
            check.due("nodes of the draft", desk.count(16), nodes);
            if (nodes < 6) {
                desk.draft(nodes);
            }
        }
        check.dueIllegalState("a 7th", () -> desk.draft(6));
        check.due("nodes of the draft", desk.count(16), 6);
        desk.clearDraft();
        check.due("nodes of the draft", desk.count(16), 0);
    }

    @Sentence(in = "Promise 11", says = "Throws IllegalArgumentException if what is out of range")
    static void promise11_throwsIfWhatIsOutOfRange(Check check) {
        CircuitDesk desk = new CircuitDesk();
        for (int what : new int[] {LEAST, -1, 17, 18, MOST}) {
            check.dueIllegalArgument("count(" + what + ")", () -> desk.count(what));
        }
        check.due("count(0)", desk.count(0), 1);
        check.due("count(16)", desk.count(16), 0);
    }
}
