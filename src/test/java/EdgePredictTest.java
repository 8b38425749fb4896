import java.io.IOException;

/** The promises 31 to 36, sentence by sentence. */
public final class EdgePredictTest {
    private static final int LEAST = Integer.MIN_VALUE;
    private static final int MOST = Integer.MAX_VALUE;
    private static final int[] NO_CIRCUITS = {LEAST, -1, 8, MOST};
    private static final int[] NO_SLOTS = {LEAST, -1, 2, 3, MOST};

    private interface Question {
        void ask(CircuitDesk desk);
    }

    public static void main(String[] args) throws IOException {
        Edges.run(EdgePredictTest.class, args);
    }

    /** Circuit 0 is moved and circuit 1 is not; both have packets, and there is a draft. */
    private static CircuitDesk playing() {
        CircuitDesk desk = Check.desk(Nets.triangle(3, 9, 3, 2, 1) + "circuit 2 1 0 1 2;"
                + "circuit 1 2 2 1;set 1 1;");
        desk.run(8);
        desk.save(1);
        desk.offer(1, 8);
        desk.moveBest(0, -1);
        desk.run(1);
        Check.draft(desk, 1, 0);
        return desk;
    }

    // ---- Promise 31

    @Sentence(in = "Promise 31", says = "predictions (nothing changes)")
    static void promise31_predictionsChangeNothing(Check check) {
        unchanged(check, "canMove", desk -> {
            check.due("canMove(1, NONE)", desk.canMove(1, -1), 4);
            check.due("canMove(1, 1)", desk.canMove(1, 1), 0);
            check.due("canMove(0, 1)", desk.canMove(0, 1), 2);
        });
        unchanged(check, "movedIn", desk -> check.due("movedIn", desk.movedIn(0), 8));
        unchanged(check, "ahead", desk -> {
            for (int what = 0; what <= 3; what++) {
                desk.ahead(200, what);
            }
        });
        unchanged(check, "weakLink", desk -> check.due("weakLink", desk.weakLink(), -1));
    }

    private static void unchanged(Check check, String name, Question question) {
        CircuitDesk desk = playing();
        CircuitDesk twin = playing();
        question.ask(desk);
        check.same(name + " changes something", View.withHidden(desk), View.withHidden(twin));
    }

    @Sentence(in = "Promise 31", says = "Returns what moveBest() would return.")
    static void promise31_whatMoveBestWouldReturn(Check check) {
        String net = Nets.triangle(1, 9, 1, 1, 3) + "set 0 0;circuit 5 0 0 1 2;";
        likewise(check, Check.desk(net), -1, 4);
        likewise(check, Check.desk(net), 2, 4);
        likewise(check, Check.desk(net), 0, 6);
        CircuitDesk down = Check.desk(net);
        down.setUp(2, false);
        likewise(check, down, 1, 3);
        down.setUp(2, true);
        down.set(0, 1);
        likewise(check, down, 1, 0);
        likewise(check, down, 1, 2);
        down.run(down.movedIn(0) - 1);
        likewise(check, down, 1, 2);
        down.run(1);
        likewise(check, down, 1, 4);
    }

    private static void likewise(Check check, CircuitDesk desk, int link, int due) {
        check.due("canMove(0, " + link + ")", desk.canMove(0, link), due);
        check.due("canMove(0, " + link + ") again", desk.canMove(0, link), due);
        check.due("moveBest(0, " + link + ")", desk.moveBest(0, link), due);
    }

    @Sentence(in = "Promise 31", says = {"circuit: a circuit", "link: a link, or NONE", "Throws"
            + " IndexOutOfBoundsException if there is no such circuit, or link is no link and not"
            + " NONE"})
    static void promise31_throwsIfThereIsNoSuchCircuitOrLink(Check check) {
        CircuitDesk desk = Nets.circuits(8);
        for (int circuit : NO_CIRCUITS) {
            check.dueOutOfBounds("canMove(" + circuit + ", NONE)",
                    () -> desk.canMove(circuit, -1));
        }
        for (int link : new int[] {LEAST, -2, 1, 16, MOST}) {
            check.dueOutOfBounds("canMove(0, " + link + ")", () -> desk.canMove(0, link));
        }
        check.due("canMove(0, NONE)", desk.canMove(0, -1), 4);
        check.due("canMove(7, 0)", desk.canMove(7, 0), 3);
    }

    // ---- Promise 32

    @Sentence(in = "Promise 32", says = "Returns after how many ticks its phase is 0, if only time"
            + " passes; 0 if it is now.")
    static void promise32_afterHowManyTicksItsPhaseIs0(Check check) {
        CircuitDesk least = Check.desk(Nets.triangle(4, 9, 1, 1, 1) + "circuit 1 0 0 2;");
        check.due("it is now", least.movedIn(0), 0);
        Nets.move(least, 0, 0, 1, 2);
        counted(check, least, 2 + 1 + 1 + 1);
        CircuitDesk most = Check.desk(Nets.row(6, 4, 9, 9) + "link 0 2 9 9;link 1 3 9 9;"
                + "circuit 1 0 0 1 2 3 4 5;");
        check.due("move", Nets.move(most, 0, 0, 2, 1, 3, 4, 5), 0);
        counted(check, most, 5 + 1 + 45 + 5);
        CircuitDesk aborted = Check.desk(Nets.triangle(4, 9, 1, 1, 1) + "circuit 1 0 0 2;");
        Nets.move(aborted, 0, 0, 1, 2);
        aborted.abort(0);
        check.due("aborted", aborted.movedIn(0), 0);
    }

    private static void counted(Check check, CircuitDesk desk, int ticks) {
        for (int left = ticks; left > 0; left--) {
            check.due("movedIn", desk.movedIn(0), left);
            check.dueTrue("the phase is above 0 with " + left, desk.circuit(0, 4) > 0);
            desk.run(1);
        }
        check.due("movedIn", desk.movedIn(0), 0);
        check.due("the phase", desk.circuit(0, 4), 0);
    }

    @Sentence(in = "Promise 32", says = {"circuit: a circuit",
        "Throws IndexOutOfBoundsException if there is no such circuit"})
    static void promise32_throwsIfThereIsNoSuchCircuit(Check check) {
        CircuitDesk desk = Nets.circuits(8);
        for (int circuit : NO_CIRCUITS) {
            check.dueOutOfBounds("movedIn(" + circuit + ")", () -> desk.movedIn(circuit));
        }
        check.due("movedIn(0)", desk.movedIn(0), 0);
        check.due("movedIn(7)", desk.movedIn(7), 0);
    }

    // ---- Promise 33

    @Sentence(in = "Promise 33", says = "ticks: 1 to 200")
    static void promise33_ticks1To200(Check check) {
        CircuitDesk desk = Check.desk(Nets.pair(4, 9, 1) + "circuit 1 1 0 1;");
        check.dueIllegalArgument("ahead(0, 0)", () -> desk.ahead(0, 0));
        check.due("ahead(1, 0)", desk.ahead(1, 0), 0);
        check.due("ahead(2, 0)", desk.ahead(2, 0), 1);
        check.due("ahead(200, 0)", desk.ahead(200, 0), 199);
        check.dueIllegalArgument("ahead(201, 0)", () -> desk.ahead(201, 0));
    }

    @Sentence(in = "Promise 33", says = {"0: delivered packets", "1: lost ones", "2: late ones",
        "3: dropped ones", "Returns how many there are in these ticks, if only time passes."})
    static void promise33_howManyThereAreInTheseTicks(Check check) {
        CircuitDesk desk = Check.desk(Nets.triangle(4, 9, 5, 1, 1) + "circuit 1 1 0 1 2;"
                + "circuit 1 1 1 2;");
        desk.run(10);
        Nets.move(desk, 0, 0, 2);
        desk.setUp(1, false);
        desk.offer(1, 9);
        desk.offer(1, 3);
        int[][] due = new int[16][4];
        for (int ticks = 1; ticks <= 15; ticks++) {
            for (int what = 0; what <= 3; what++) {
                due[ticks][what] = desk.ahead(ticks, what);
            }
        }
        int[] before = {desk.count(8), desk.count(9), desk.count(11), desk.count(10)};
        check.due("dropped before do not count", before[3], 3);
        for (int ticks = 1; ticks <= 15; ticks++) {
            desk.run(1);
            int[] after = {desk.count(8), desk.count(9), desk.count(11), desk.count(10)};
            for (int what = 0; what <= 3; what++) {
                check.due("ahead(" + ticks + ", " + what + ")", due[ticks][what],
                        after[what] - before[what]);
            }
        }
        check.due("dropped in 1 tick: 9 and 1", due[1][3], 1);
        check.due("dropped in 15 ticks", due[15][3], 1);
        check.due("lost in 1 tick: at node 1 none yet, one that is sent", due[1][1], 2);
        check.dueTrue("delivered on the new way", due[15][0] > 0);
    }

    @Sentence(in = "Promise 33", says = "2: late ones")
    static void promise33_lateOnesInTheseTicks(Check check) {
        CircuitDesk desk = Check.desk(Nets.triangle(4, 9, 5, 1, 1) + "circuit 1 1 0 1 2;");
        desk.run(10);
        Nets.move(desk, 0, 0, 2);
        int[] due = {0, 0, 0, 1, 2, 3, 4, 4};
        for (int ticks = 1; ticks <= 8; ticks++) {
            check.due("ahead(" + ticks + ", 2)", desk.ahead(ticks, 2), due[ticks - 1]);
        }
        desk.run(5);
        check.due("those before do not count", desk.ahead(200, 2), 2);
    }

    @Sentence(in = "Promise 33",
            says = "Throws IllegalArgumentException if ticks or what is out of range")
    static void promise33_throwsIfTicksOrWhatIsOutOfRange(Check check) {
        CircuitDesk desk = Nets.circuits(1);
        for (int ticks : new int[] {LEAST, -1, 0, 201, MOST}) {
            check.dueIllegalArgument("ahead(" + ticks + ", 0)", () -> desk.ahead(ticks, 0));
        }
        for (int what : new int[] {LEAST, -1, 4, 5, MOST}) {
            check.dueIllegalArgument("ahead(1, " + what + ")", () -> desk.ahead(1, what));
        }
        check.due("ahead(1, 0)", desk.ahead(1, 0), 0);
        check.due("ahead(1, 3)", desk.ahead(1, 3), 0);
    }

    // ---- Promise 34

    @Sentence(in = "Promise 34", says = {"Finds the link whose failure would hurt most: a circuit"
            + " is cut off by a link if it is on its active way, and there is no best way for it"
            + " without that link.", "NONE if none cuts off any."})
    static void promise34_cutOffByALinkOfItsActiveWay(Check check) {
        check.due("without circuits", Check.desk(Nets.pair(1, 9, 1)).weakLink(), -1);
        check.due("without nodes", new CircuitDesk().weakLink(), -1);
        check.due("one link, one circuit", Nets.circuits(1).weakLink(), 0);
        CircuitDesk closed = Nets.circuits(1);
        closed.close(0);
        check.due("a circuit that was closed", closed.weakLink(), -1);
        String ring = Nets.triangle(4, 20, 1, 1, 1) + "circuit 5 0 0 1;";
        check.due("another way", Check.desk(ring).weakLink(), -1);
        check.due("another way with just room for it",
                Check.desk(ring + "circuit 15 0 0 2;").weakLink(), -1);
        check.due("another way without room for it",
                Check.desk(ring + "circuit 16 0 0 2;").weakLink(), 0);
        CircuitDesk down = Check.desk(ring);
        down.setUp(1, false);
        check.due("another way that is down", down.weakLink(), 0);
        // the active way is the new one from the tick on in which it switches over
        CircuitDesk moved = Check.desk(ring);
        Nets.move(moved, 0, 0, 2, 1);
        moved.setUp(1, false);
        check.due("the old way is the active one", moved.weakLink(), 0);
        moved.run(2);
        check.due("phase", moved.circuit(0, 4), 1);
        check.due("the old way is the active one", moved.weakLink(), 0);
        moved.run(1);
        check.due("phase", moved.circuit(0, 4), 2);
        check.due("the new way is the active one", moved.weakLink(), -1);
    }

    @Sentence(in = "Promise 34",
            says = "Returns the link that cuts off most circuits, of several the lowest one")
    static void promise34_mostCircuitsThenTheLowestLink(Check check) {
        String row = Nets.row(3, 9, 20, 1);
        CircuitDesk equal = Check.desk(row + "circuit 1 0 1 2;circuit 1 0 0 1;");
        check.due("one each: the lowest link", equal.weakLink(), 0);
        CircuitDesk more = Check.desk(row + "circuit 1 0 1 2;circuit 1 0 0 1;circuit 1 0 2 1;");
        check.due("two against one", more.weakLink(), 1);
        CircuitDesk both = Check.desk(row + "circuit 1 0 0 1 2;");
        check.due("both links of one circuit", both.weakLink(), 0);
        // the BANDs do not count, the circuits do
        CircuitDesk bands = Check.desk(row + "circuit 20 0 0 1;circuit 1 0 1 2;circuit 1 0 1 2;");
        check.due("two small ones against a great one", bands.weakLink(), 1);
        CircuitDesk last = Nets.full(); // the link 15 is that of the nodes 6 and 8
        Nets.open(last, 1, 6, 8);
        check.due("another way", last.weakLink(), -1);
        last.setUp(7, false);
        check.due("the last link", last.weakLink(), 15);
    }

    // ---- Promise 35

    @Sentence(in = "Promise 35", says = "Saves everything except the text buffer, the latest error,"
            + " the draft and the saved states.")
    static void promise35_savesEverythingExceptTheTextTheErrorAndTheDraft(Check check) {
        CircuitDesk desk = playing();
        CircuitDesk twin = playing();
        desk.save(0);
        Check.load(desk, "x");
        desk.draft(2);
        desk.appendText(0x20202020);
        desk.run(30);
        desk.set(0, 4);
        desk.setUp(1, false);
        desk.restore(0);
        twin.clearDraft();
        String seen = View.of(desk);
        String due = View.of(twin);
        check.same("everything is saved", seen.substring(0, seen.indexOf("\nerror")),
                due.substring(0, due.indexOf("\nerror")));
        check.due("the latest error is not saved", desk.errorCode(), 1);
        check.due("its position is not saved", desk.errorPosition(), 0);
        check.due("the text is not saved", desk.truncateText(4), 4);
        check.due("the draft is not saved", desk.count(16), 0);
    }

    @Sentence(in = "Promise 35", says = "Saves everything")
    static void promise35_everythingIsSavedWhateverComesBehind(Check check) {
        String other = "node 2;node 2;node 2;link 0 2 19 9;link 1 0 18 8;link 2 1 17 7;"
                + "circuit 7 5 1 0;circuit 6 6 0 1;";
        for (int ticks = 0; ticks <= 9; ticks++) {
            for (int later = 0; later <= 12; later += 12) {
                CircuitDesk desk = Nets.rich(ticks);
                desk.save(later / 12);
                check.due("load", Check.load(desk, other), 2);
                desk.run(3);
                desk.restore(later / 12);
                CircuitDesk twin = Nets.rich(ticks);
                if (later > 0) {
                    desk.run(later);
                    twin.run(later);
                }
                check.same("something is not saved at " + ticks, View.of(desk), View.of(twin));
            }
        }
    }

    @Sentence(in = "Promise 35", says = "and the saved states.")
    static void promise35_theSavedStatesAreNotSaved(Check check) {
        CircuitDesk desk = new CircuitDesk();
        desk.save(0);
        desk.addNode(1);
        desk.save(1);
        desk.restore(0);
        check.due("nodes of the state 0", desk.count(2), 0);
        desk.restore(1);
        check.due("the state 1 is there, as it was saved later", desk.count(2), 1);
    }

    @Sentence(in = "Promise 35",
            says = "slot: 0 or 1; a state that is already saved there is replaced")
    static void promise35_aSavedStateIsReplaced(Check check) {
        CircuitDesk desk = new CircuitDesk();
        for (int slot = 0; slot <= 1; slot++) {
            desk.addNode(1);
            desk.save(slot);
        }
        desk.addNode(1);
        desk.save(0);
        desk.restore(1);
        check.due("the state 1 stays", desk.count(2), 2);
        desk.restore(0);
        check.due("the state 0 is replaced", desk.count(2), 3);
        CircuitDesk less = Nets.circuits(2);
        less.save(1);
        Check.load(less, "node 1;");
        less.save(1);
        Check.load(less, "");
        less.restore(1);
        check.due("by one with less", less.count(2), 1);
        check.due("by one without circuits", less.count(4), 0);
        check.due("by one whose labels are free", less.node(0, 1), 1);
    }

    @Sentence(in = "Promise 35", says = "Throws IllegalArgumentException if slot is out of range")
    static void promise35_throwsIfSlotIsOutOfRange(Check check) {
        CircuitDesk desk = new CircuitDesk();
        for (int slot : NO_SLOTS) {
            check.dueIllegalArgument("save(" + slot + ")", () -> desk.save(slot));
        }
        check.dueIllegalState("restore(0): nothing is saved", () -> desk.restore(0));
        check.dueIllegalState("restore(1): nothing is saved", () -> desk.restore(1));
        desk.save(0);
        desk.save(1);
        desk.restore(0);
        desk.restore(1);
    }

    // ---- Promise 36

    @Sentence(in = "Promise 36", says = "Brings back a saved state, which stays saved")
    static void promise36_theStateStaysSaved(Check check) {
        CircuitDesk desk = Nets.circuits(1);
        desk.offer(0, 3);
        desk.save(0);
        for (int i = 0; i <= 2; i++) {
            desk.run(9);
            desk.close(0);
            desk.restore(0);
            check.due("time", desk.count(5), 0);
            check.due("circuits", desk.count(4), 1);
            check.due("backlog", desk.circuit(0, 6), 3);
            check.due("delivered later", desk.run(9), 3);
        }
    }

    @Sentence(in = "Promise 36", says = "Brings back a saved state, which stays saved")
    static void promise36_aStateWithLessIsBroughtBackToo(Check check) {
        CircuitDesk desk = new CircuitDesk();
        desk.save(0);
        Check.load(desk, Nets.row(10, 12, 99, 9) + Nets.times(8, "circuit 1 1 0 1 2 3;"));
        desk.run(20);
        desk.save(1);
        check.due("packets", desk.count(6), 60);
        desk.restore(0);
        check.same("something is left", View.of(desk), View.of(new CircuitDesk()));
        desk.restore(1);
        check.due("nodes", desk.count(2), 10);
        check.due("links", desk.count(3), 9);
        check.due("circuits", desk.count(4), 8);
        check.due("packets", desk.count(6), 60);
        check.due("the last packet's circuit", desk.packet(59, 0), 3);
    }

    @Sentence(in = "Promise 36", says = "the draft is empty then.")
    static void promise36_theDraftIsEmptyThen(Check check) {
        for (int nodes = 0; nodes <= 6; nodes += 3) {
            CircuitDesk desk = Check.desk(Nets.row(6, 1, 9, 1));
            for (int n = 0; n < nodes; n++) {
                desk.draft(n);
            }
            desk.save(1);
            check.due("the draft stays when it is saved", desk.count(16), nodes);
            desk.restore(1);
            check.due("nodes of the draft", desk.count(16), 0);
            check.due("its first node", desk.draftNode(0), -1);
        }
    }

    @Sentence(in = "Promise 36", says = {"slot: 0 or 1",
        "Throws IllegalArgumentException if slot is out of range"})
    static void promise36_throwsIfSlotIsOutOfRange(Check check) {
        CircuitDesk desk = new CircuitDesk();
        for (int slot : NO_SLOTS) {
            check.dueIllegalArgument("restore(" + slot + ")", () -> desk.restore(slot));
        }
        desk.save(0);
        desk.addNode(1);
        desk.save(1);
        for (int slot : NO_SLOTS) {
            check.dueIllegalArgument("restore(" + slot + ")", () -> desk.restore(slot));
        }
        desk.restore(0);
        check.due("the slot 0", desk.count(2), 0);
        desk.restore(1);
        check.due("the slot 1", desk.count(2), 1);
    }

    @Sentence(in = "Promise 36", says = "Throws IllegalStateException if nothing is saved there")
    static void promise36_throwsIfNothingIsSavedThere(Check check) {
        for (int slot = 0; slot <= 1; slot++) {
            int saved = slot;
            CircuitDesk desk = Check.desk("node 1;");
            desk.draft(0);
            check.dueIllegalState("restore(0) before", () -> desk.restore(0));
            check.dueIllegalState("restore(1) before", () -> desk.restore(1));
            desk.save(saved);
            check.dueIllegalState("restore of the other slot", () -> desk.restore(1 - saved));
            check.due("the draft stays", desk.count(16), 1);
            desk.restore(saved);
            check.due("the draft is empty", desk.count(16), 0);
            Check.load(desk, "");
            check.dueIllegalState("the other slot after a load", () -> desk.restore(1 - saved));
            desk.restore(saved);
            check.due("nodes", desk.count(2), 1);
        }
    }
}
