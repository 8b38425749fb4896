/** Promises 31 to 36: predictions, and states that are saved and brought back. */
public final class PredictTest {
    private static final Check CHECK = new Check();

    public static void main(String[] args) {
        movedIn();
        ahead();
        weakLink();
        save();
        saveAllOfIt();
        savedStatesAreApart();
        CHECK.end("PredictTest");
    }

    /** canMove is held against moveBest in ActsTest. */
    private static void movedIn() {
        CircuitDesk desk = Check.desk("node 3;node 3;node 3;link 0 1 9 2;link 1 2 9 3;"
                + "link 0 2 9 9;circuit 4 1 0 1 2;");
        CHECK.dueOutOfBounds("movedIn(-1)", () -> desk.movedIn(-1));
        CHECK.dueOutOfBounds("movedIn(1)", () -> desk.movedIn(1));
        CHECK.due("movedIn without a move", desk.movedIn(0), 0);
        Check.draft(desk, 0, 2);
        desk.move(0);
        // 1 entry, 1 tick to switch over, 5 to drain, 2 labels
        for (int left = 9; left > 0; left--) {
            CHECK.due("movedIn", desk.movedIn(0), left);
            CHECK.dueTrue("phase with " + left + " left", desk.circuit(0, 4) > 0);
            desk.run(1);
        }
        CHECK.due("movedIn at the end", desk.movedIn(0), 0);
        CHECK.due("phase at the end", desk.circuit(0, 4), 0);
        desk.moveBest(0, -1);
        CHECK.due("movedIn of the way back", desk.movedIn(0), 2 + 1 + 9 + 1);
    }

    private static void ahead() {
        CircuitDesk desk = Check.desk("node 3;node 3;node 3;link 0 1 9 5;link 1 2 9 1;link 0 2 9 1;"
                + "circuit 1 1 0 1 2;circuit 1 1 1 2;");
        CHECK.dueIllegalArgument("ahead(0, 0)", () -> desk.ahead(0, 0));
        CHECK.dueIllegalArgument("ahead(201, 0)", () -> desk.ahead(201, 0));
        CHECK.dueIllegalArgument("ahead(1, -1)", () -> desk.ahead(1, -1));
        CHECK.dueIllegalArgument("ahead(1, 4)", () -> desk.ahead(1, 4));
        desk.run(10);
        desk.moveBest(0, -1);
        desk.setUp(1, false);
        desk.offer(1, 9);
        int[] ahead = {desk.ahead(20, 0), desk.ahead(20, 1), desk.ahead(20, 2), desk.ahead(20, 3)};
        CHECK.due("time", desk.count(5), 10);
        CHECK.due("packets", desk.count(6), 5);
        CHECK.due("phase", desk.circuit(0, 4), 1);
        int[] before = {desk.count(8), desk.count(9), desk.count(11), desk.count(10)};
        desk.run(20);
        int[] after = {desk.count(8), desk.count(9), desk.count(11), desk.count(10)};
        for (int what = 0; what < 4; what++) {
            CHECK.due("ahead(20, " + what + ")", ahead[what], after[what] - before[what]);
        }
        CHECK.due("delivered on the new way", ahead[0], 18);
        CHECK.due("lost: those on the old way, and one a tick", ahead[1], 6 + 20);
        CHECK.due("dropped, before the first is sent", ahead[3], 1);
        CHECK.due("ahead(200, 0)", desk.ahead(200, 0), 200);
        lateAhead();
    }

    private static void lateAhead() {
        CircuitDesk desk = Check.desk("node 3;node 3;node 3;link 0 1 9 5;link 1 2 9 1;link 0 2 9 1;"
                + "circuit 1 1 0 1 2;");
        desk.run(10);
        desk.moveBest(0, -1);
        CHECK.due("late in 20 ticks", desk.ahead(20, 2), 4);
        desk.run(4);
        CHECK.due("late so far", desk.count(11), 1);
        CHECK.due("late ones from now on", desk.ahead(200, 2), 3);
    }

    private static void weakLink() {
        CircuitDesk none = Check.desk("node 3;node 3;link 0 1 9 1;");
        CHECK.due("weakLink without circuits", none.weakLink(), -1);
        String net = "node 9;node 9;node 9;node 9;link 0 1 9 1;link 1 2 9 1;link 0 2 9 5;"
                + "link 2 3 9 1;link 1 3 9 9;";
        CircuitDesk desk = Check.desk(net + "circuit 1 0 0 1 2;");
        CHECK.due("all have another way", desk.weakLink(), -1);
        CircuitDesk cut = Check.desk(net + "circuit 5 0 0 1;circuit 5 0 2 3;");
        CHECK.due("a way round each", cut.weakLink(), -1);
        cut.setUp(4, false);
        CHECK.due("link 3 cuts off circuit 1", cut.weakLink(), 3);
        cut.setUp(2, false);
        CHECK.due("the lowest of several", cut.weakLink(), 0);
        Check.draft(cut, 1, 2, 3);
        CHECK.due("open", cut.open(1, 0), 0);
        CHECK.due("most circuits", cut.weakLink(), 3);
        CircuitDesk full = Check.desk(net + "circuit 5 0 0 1;circuit 5 0 0 2;");
        CHECK.due("no room on the way round", full.weakLink(), 0);
        CircuitDesk moved = Check.desk("node 9;node 9;node 9;link 0 1 9 1;link 1 2 9 1;"
                + "link 0 2 9 5;circuit 5 0 0 1 2;");
        Check.draft(moved, 0, 2);
        moved.move(0);
        moved.setUp(2, false);
        CHECK.due("the active way is the old one", moved.weakLink(), 0);
        moved.run(2);
        CHECK.due("the active way is the new one", moved.weakLink(), -1);
        moved.setUp(2, true);
        moved.setUp(0, false);
        CHECK.due("on its new way", moved.weakLink(), 2);
    }

    /** A desk with a circuit that is moved, one that waits, and packets of both. */
    private static CircuitDesk moving() {
        CircuitDesk desk = Check.desk("node 2;node 1;node 3;link 0 1 9 2;link 1 2 9 3;link 0 2 9 9;"
                + "circuit 4 1 0 1 2;set 0 3;set 1 1;");
        desk.run(5);
        Check.draft(desk, 0, 1);
        CHECK.due("open", desk.open(1, 1), 0);
        desk.offer(1, 3);
        desk.moveBest(0, 0);
        desk.run(1);
        return desk;
    }

    private static void save() {
        CircuitDesk desk = moving();
        CHECK.dueIllegalArgument("save(-1)", () -> desk.save(-1));
        CHECK.dueIllegalArgument("save(2)", () -> desk.save(2));
        CHECK.dueIllegalArgument("restore(-1)", () -> desk.restore(-1));
        CHECK.dueIllegalArgument("restore(2)", () -> desk.restore(2));
        CHECK.dueIllegalState("restore(0)", () -> desk.restore(0));
        desk.save(0);
        CHECK.dueIllegalState("restore(1)", () -> desk.restore(1));
        desk.draft(2);
        desk.appendText(0x20202020);
        desk.run(50);
        desk.setUp(1, false);
        desk.set(0, 0);
        desk.addNode(7);
        desk.addLink(3, 2, 50, 5);
        desk.restore(0);
        CHECK.due("the draft is empty", desk.count(16), 0);
        CHECK.due("the text stays", desk.truncateText(3), 3);
        // 49 of circuit 1; of circuit 0 five on the old way, and 41 on the new one
        CHECK.due("delivered from there", desk.run(50), 95);
        desk.restore(0);
        CHECK.due("all is as it was", print(desk), print(moving()));
        CHECK.due("delivered from there, again", desk.run(50), 95);
    }

    /** A desk on which something has come to all that a state has. */
    private static CircuitDesk draining() {
        String net = "node 4;node 4;node 4;link 0 1 9 5;link 1 2 9 1;link 0 2 9 1;";
        CircuitDesk desk = Check.desk(net + "circuit 1 1 0 1 2;circuit 2 2 1 0;");
        desk.run(9);
        desk.moveBest(0, -1);
        desk.abort(0);
        desk.moveBest(0, -1);
        desk.run(7);
        desk.setUp(0, false);
        desk.offer(1, 9);
        desk.run(9);
        desk.setUp(0, true);
        desk.set(1, 1);
        Check.draft(desk, 0, 1, 2);
        desk.move(0);
        desk.run(desk.movedIn(0));
        desk.run(5);
        desk.moveBest(0, -1);
        desk.run(2);
        CHECK.due("held", desk.circuit(0, 11), 4);
        CHECK.due("drains", desk.circuit(0, 12), 6);
        return desk;
    }

    /** A state that is brought back after another one was there goes on as if none had been. */
    private static void saveAllOfIt() {
        for (int ticks = 0; ticks <= 12; ticks++) {
            CircuitDesk never = draining();
            CircuitDesk desk = draining();
            desk.save(0);
            desk.run(9);
            int read = Check.load(desk, "node 1;node 1;link 1 0 5 1;circuit 3 1 1 0;");
            CHECK.due("load", read, 1);
            desk.run(3);
            desk.restore(0);
            CHECK.due("ORDER", desk.count(1), 1);
            if (ticks > 0) {
                CHECK.due("delivered", desk.run(ticks), never.run(ticks));
            }
            CHECK.due("all as it is due, ticks later: " + ticks, print(desk), print(never));
        }
    }

    private static void savedStatesAreApart() {
        CircuitDesk desk = new CircuitDesk();
        desk.save(0);
        desk.addNode(1);
        desk.save(1);
        desk.addNode(2);
        desk.restore(0);
        CHECK.due("nodes of the state 0", desk.count(2), 0);
        desk.restore(1);
        CHECK.due("nodes of the state 1", desk.count(2), 1);
        desk.addNode(2);
        desk.addLink(0, 1, 9, 9);
        desk.save(1);
        desk.restore(0);
        desk.addNode(5);
        desk.addNode(5);
        CHECK.due("no link of another state", desk.node(0, 6), 0);
        desk.restore(1);
        CHECK.due("links of the state that replaced it", desk.count(3), 1);
    }

    /** One number from all that can be seen of the state. */
    private static long print(CircuitDesk desk) {
        long print = 7;
        for (int what = 0; what <= 15; what++) {
            print = print * 31 + desk.count(what);
        }
        for (int n = 0; n < desk.count(2); n++) {
            for (int what = 0; what <= 6; what++) {
                print = print * 31 + desk.node(n, what);
            }
            for (int label = 0; label < desk.node(n, 0); label++) {
                for (int what = 0; what <= 3; what++) {
                    print = print * 31 + desk.label(n, label, what);
                }
            }
        }
        for (int l = 0; l < desk.count(3); l++) {
            for (int what = 0; what <= 6; what++) {
                print = print * 31 + desk.link(l, what);
            }
        }
        for (int c = 0; c < desk.count(4); c++) {
            for (int what = 0; what <= 14; what++) {
                print = print * 31 + desk.circuit(c, what);
            }
            print = print * 31 + Double.hashCode(desk.meanDelay(c)) + desk.movedIn(c);
        }
        for (int p = 0; p < desk.count(6); p++) {
            for (int what = 0; what <= 6; what++) {
                print = print * 31 + desk.packet(p, what);
            }
        }
        return print;
    }
}
