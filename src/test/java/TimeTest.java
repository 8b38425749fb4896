/** Promises 25 to 30: ticks, packets, what is held and late, and the two numbers with a point. */
public final class TimeTest {
    private static final Check CHECK = new Check();

    public static void main(String[] args) {
        run();
        onePacket();
        periods();
        sixtyPackets();
        late();
        held();
        orderOfPackets();
        views();
        means();
        CHECK.end("TimeTest");
    }

    private static void run() {
        CircuitDesk desk = Check.desk("node 1;node 1;link 0 1 9 2;circuit 1 1 0 1;");
        CHECK.dueIllegalArgument("run(0)", () -> desk.run(0));
        CHECK.dueIllegalArgument("run(-1)", () -> desk.run(-1));
        CHECK.dueIllegalArgument("run(201)", () -> desk.run(201));
        CHECK.due("time", desk.count(5), 0);
        CHECK.due("run(200)", desk.run(200), 198);
        CHECK.due("time", desk.count(5), 200);
        CHECK.due("run(1)", desk.run(1), 1);
        CHECK.due("time", desk.count(5), 201);
        CHECK.due("sent", desk.count(7), 201);
        CHECK.due("delivered", desk.count(8), 199);
    }

    private static void onePacket() {
        CircuitDesk desk = Check.desk("node 1;node 3;node 1;link 0 1 9 2;link 1 2 9 1;"
                + "circuit 1 0 2 1;circuit 1 0 0 1 2;");
        desk.offer(1, 1);
        int[][] due = {{1, 0, 0, 1, 1, 1, 2}, {1, 0, 0, 1, 1, 1, 1}, {1, 0, 1, 2, 2, 0, 1}};
        for (int[] row : due) {
            CHECK.due("run", desk.run(1), 0);
            CHECK.due("packets", desk.count(6), 1);
            for (int what = 0; what <= 6; what++) {
                CHECK.due("packet(0, " + what + ")", desk.packet(0, what), row[what]);
            }
        }
        CHECK.due("run", desk.run(1), 1);
        CHECK.due("packets", desk.count(6), 0);
        CHECK.dueD("mean delay", desk.meanDelay(1), 3.0);
    }

    private static void periods() {
        CircuitDesk desk = Check.desk("node 2;node 2;link 0 1 9 1;circuit 1 3 0 1;"
                + "circuit 1 0 0 1;");
        int[] sent = {0, 0, 1, 1, 1, 2, 2};
        for (int tick = 0; tick < sent.length; tick++) {
            desk.run(1);
            CHECK.due("sent at " + (tick + 1), desk.circuit(0, 7), sent[tick]);
        }
        desk.offer(0, 9);
        desk.run(1);
        CHECK.due("one a tick", desk.circuit(0, 6), 8);
        desk.offer(0, 1);
        CHECK.due("dropped", desk.count(10), 0);
        desk.run(1);
        CHECK.due("backlog after one that is dropped, and one that is sent", desk.circuit(0, 6), 8);
        CHECK.due("dropped", desk.count(10), 1);
        CHECK.due("nothing of PERIOD 0", desk.circuit(1, 7), 0);
    }

    private static void sixtyPackets() {
        StringBuilder text = new StringBuilder("node 9;node 9;node 9;link 0 1 99 9;link 1 2 99 9;");
        for (int i = 0; i < 8; i++) {
            text.append("circuit 1 1 0 1 2;");
        }
        CircuitDesk desk = Check.desk(text.toString());
        desk.run(7);
        CHECK.due("packets", desk.count(6), 56);
        desk.run(1);
        CHECK.due("at most 60", desk.count(6), 60);
        CHECK.due("the lowest circuits first", desk.circuit(3, 7), 8);
        CHECK.due("the others wait", desk.circuit(4, 7), 7);
        CHECK.due("their backlog", desk.circuit(4, 6), 1);
        desk.run(8);
        CHECK.due("backlog", desk.circuit(4, 6), 9);
        CHECK.due("backlog", desk.circuit(0, 6), 8);
        CHECK.due("dropped", desk.count(10), 0);
        desk.run(1);
        CHECK.due("dropped", desk.count(10), 4);
        CHECK.dueOutOfBounds("packet(60, 0)", () -> desk.packet(60, 0));
        CHECK.due("packet(59, 0)", desk.packet(59, 0), 3);
        CHECK.due("packets on link 1", desk.link(1, 6), 60);
        desk.setUp(1, false);
        desk.setUp(0, false);
        CHECK.due("packets that are left", desk.count(6), 0);
        desk.run(1);
        CHECK.due("all can be lost at once in one tick", desk.count(9), 68);
    }

    /** Without ORDER a packet on a quicker new way comes before those on the old way. */
    private static void late() {
        String text = "node 3;node 3;node 3;link 0 1 9 5;link 1 2 9 1;link 0 2 9 1;"
                + "circuit 1 1 0 1 2;";
        CircuitDesk desk = Check.desk(text);
        desk.run(10);
        CHECK.due("late before", desk.count(11), 0);
        CHECK.due("moveBest", desk.moveBest(0, -1), 0);
        desk.run(2);
        CHECK.due("phase", desk.circuit(0, 4), 2);
        CHECK.due("number of the last packet", desk.packet(desk.count(6) - 1, 1), 11);
        desk.run(1);
        // 11 is delivered in the tick of 6, behind it, and before 7 to 10
        CHECK.due("none is late yet", desk.count(11), 0);
        desk.run(6);
        CHECK.due("late", desk.circuit(0, 10), 4);
        CHECK.due("late in all", desk.count(11), 4);
        CHECK.due("lost", desk.count(9), 0);
        desk.run(10);
        CHECK.due("no more late", desk.count(11), 4);
    }

    /** With ORDER 1 the circuit is held for the difference, so that none is late. */
    private static void held() {
        String text = "node 3;node 3;node 3;link 0 1 9 5;link 1 2 9 1;link 0 2 9 2;"
                + "circuit 1 1 0 1 2;";
        CircuitDesk desk = Check.desk(text + "set 1 1;");
        desk.run(10);
        desk.moveBest(0, -1);
        desk.run(1);
        CHECK.due("held before it switches over", desk.circuit(0, 11), 0);
        desk.run(1);
        CHECK.due("held, 1 of 4 passed", desk.circuit(0, 11), 3);
        CHECK.due("sent", desk.circuit(0, 7), 11);
        CHECK.due("backlog", desk.circuit(0, 6), 1);
        desk.run(3);
        CHECK.due("held no more", desk.circuit(0, 11), 0);
        CHECK.due("sent", desk.circuit(0, 7), 11);
        CHECK.due("backlog", desk.circuit(0, 6), 4);
        desk.run(1);
        CHECK.due("sent", desk.circuit(0, 7), 12);
        desk.run(20);
        CHECK.due("late", desk.count(11), 0);
        CHECK.due("lost", desk.count(9), 0);
        CircuitDesk slower = Check.desk(text + "set 1 1;circuit 1 1 0 2;");
        Check.draft(slower, 0, 1, 2);
        CHECK.due("move to a slower way", slower.move(1), 0);
        slower.run(3);
        CHECK.due("phase", slower.circuit(1, 4), 2);
        CHECK.due("not held", slower.circuit(1, 11), 0);
        CHECK.due("sent on", slower.circuit(1, 7), 3);
        slower.set(1, 0);
        slower.moveBest(0, -1);
        slower.run(2);
        CHECK.due("ORDER when it switches over", slower.circuit(0, 11), 0);
    }

    private static void orderOfPackets() {
        CircuitDesk desk = Check.desk("node 3;node 3;node 3;link 0 1 9 1;link 1 2 9 7;"
                + "circuit 1 0 1 2;circuit 1 0 0 1;circuit 1 0 0 1 2;");
        desk.offer(2, 2);
        desk.run(1);
        desk.offer(0, 1);
        desk.offer(1, 1);
        desk.run(1);
        int[][] due = {{2, 0, 1}, {0, 0, 1}, {1, 0, 0}, {2, 1, 0}};
        for (int p = 0; p < 4; p++) {
            for (int what = 0; what <= 2; what++) {
                CHECK.due("packet(" + p + ", " + what + ")", desk.packet(p, what), due[p][what]);
            }
        }
        CHECK.due("run", desk.run(1), 1);
        CHECK.due("the others move up", desk.packet(2, 0), 2);
        CHECK.due("on link 1", desk.link(1, 6), 3);
    }

    private static void views() {
        CircuitDesk desk = Check.desk("node 3;node 3;node 3;link 0 1 9 2;link 1 2 9 3;"
                + "link 0 2 9 9;circuit 4 1 0 1 2;");
        desk.run(6);
        Check.draft(desk, 0, 2);
        desk.move(0);
        desk.run(1);
        desk.setUp(0, false);
        int[] due = {0, 2, 4, 1, 1, 5, 0, 7, 2, 2, 0, 0, 0, 3, 0};
        for (int what = 0; what <= 14; what++) {
            CHECK.due("circuit(0, " + what + ")", desk.circuit(0, what), due[what]);
        }
        CHECK.dueOutOfBounds("circuit(-1, 0)", () -> desk.circuit(-1, 0));
        CHECK.dueOutOfBounds("circuit(1, 99)", () -> desk.circuit(1, 99));
        CHECK.dueIllegalArgument("circuit(0, 15)", () -> desk.circuit(0, 15));
        CHECK.dueIllegalArgument("circuit(0, -1)", () -> desk.circuit(0, -1));
        CHECK.dueOutOfBounds("way(1..)", () -> desk.way(1, true, 0, 0));
        CHECK.dueOutOfBounds("way(.., -1, 9)", () -> desk.way(0, true, -1, 9));
        CHECK.dueIllegalArgument("way(.., 3)", () -> desk.way(0, true, 0, 3));
        CHECK.dueIllegalArgument("way(.., -1)", () -> desk.way(0, false, 99, -1));
        CHECK.due("way far behind", desk.way(0, false, Integer.MAX_VALUE, 2), -1);
        CHECK.dueOutOfBounds("packet(-1, 0)", () -> desk.packet(-1, 0));
        CHECK.dueOutOfBounds("packet(3, 9)", () -> desk.packet(3, 9));
        CHECK.dueIllegalArgument("packet(0, 7)", () -> desk.packet(0, 7));
        CHECK.dueIllegalArgument("packet(0, -1)", () -> desk.packet(0, -1));
    }

    private static void means() {
        CircuitDesk desk = Check.desk("node 3;node 3;node 3;link 0 1 7 2;link 1 2 9 3;"
                + "link 0 2 5 9;circuit 3 1 0 1 2;circuit 2 0 0 2;");
        CHECK.dueD("mean delay without any", desk.meanDelay(0), -1.0);
        CHECK.dueOutOfBounds("meanDelay(2)", () -> desk.meanDelay(2));
        CHECK.dueOutOfBounds("meanDelay(-1)", () -> desk.meanDelay(-1));
        CHECK.dueD("usage", desk.usage(), 8.0f / 21.0f);
        desk.run(7);
        CHECK.due("moveBest", desk.moveBest(1, -1), 0);
        CHECK.dueD("usage while it is moved", desk.usage(), 12.0f / 21.0f);
        CHECK.dueD("mean delay", desk.meanDelay(0), 5.0);
        desk.offer(1, 1);
        desk.run(1);
        desk.run(5);
        desk.offer(1, 1);
        desk.run(9);
        CHECK.due("delivered", desk.circuit(1, 8), 2);
        CHECK.dueD("mean of 9 and 5", desk.meanDelay(1), 7.0);
        CircuitDesk none = new CircuitDesk();
        CHECK.dueD("usage without links", none.usage(), 0.0);
        CircuitDesk free = Check.desk("node 1;node 1;link 0 1 9 1;");
        CHECK.dueD("usage without circuits", free.usage(), 0.0);
        CircuitDesk full = Check.desk("node 1;node 1;link 0 1 1 1;circuit 1 0 0 1;");
        CHECK.dueD("usage of all there is", full.usage(), 1.0);
    }
}
