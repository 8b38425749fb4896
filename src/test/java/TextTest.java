/** Promises 2 to 6: the text buffer, setups and their errors. */
public final class TextTest {
    private static final Check CHECK = new Check();
    private static final String TEN_NODES =
            "node 1;node 1;node 1;node 1;node 1;node 1;node 1;node 1;node 1;node 1;";
    private static final String SEVEN_IN_A_ROW = "node 3;node 3;node 3;node 3;node 3;node 3;node 3;"
            + "link 0 1 9 1;link 1 2 9 1;link 2 3 9 1;link 3 4 9 1;link 4 5 9 1;link 5 6 9 1;";

    public static void main(String[] args) {
        buffer();
        goodTexts();
        notAllowed();
        tooEarly();
        outOfRange();
        tooMany();
        wrongNodes();
        notToHave();
        leastCode();
        whatStays();
        nothingIsLeft();
        noMoveIsLeft();
        CHECK.end("TextTest");
    }

    private static void error(String text, int code, int position) {
        CircuitDesk desk = new CircuitDesk();
        CHECK.due("load of '" + text + "'", Check.load(desk, text), -1);
        CHECK.due("code of '" + text + "'", desk.errorCode(), code);
        CHECK.due("position in '" + text + "'", desk.errorPosition(), position);
    }

    private static CircuitDesk good(String text, int circuits) {
        CircuitDesk desk = new CircuitDesk();
        CHECK.due("load of '" + text + "'", Check.load(desk, text), circuits);
        CHECK.due("code of '" + text + "'", desk.errorCode(), 0);
        CHECK.due("position in '" + text + "'", desk.errorPosition(), -1);
        return desk;
    }

    private static void buffer() {
        CircuitDesk desk = new CircuitDesk();
        CHECK.due("appendText", desk.appendText(0x73657430), 4); // "set0"
        CHECK.due("appendText", desk.appendText(0x20303b41), 8); // " 0;A"
        CHECK.dueIllegalArgument("truncateText(-1)", () -> desk.truncateText(-1));
        CHECK.dueIllegalArgument("truncateText(9)", () -> desk.truncateText(9));
        CHECK.due("truncateText(8)", desk.truncateText(8), 8);
        CHECK.due("truncateText(7)", desk.truncateText(7), 7);
        CHECK.due("appendText behind 7", desk.appendText(0x20202020), 11);
        CHECK.due("load", desk.load(), 0);
        CHECK.due("BORROW read from bytes in order", desk.count(0), 0);
        CHECK.due("appendText after load", desk.appendText(0x20202020), 4);
        for (int i = 2; i <= 200; i++) {
            CHECK.due("appendText", desk.appendText(0x20202020), 4 * i);
        }
        CHECK.dueIllegalState("appendText above 800", () -> desk.appendText(0x20202020));
        CHECK.due("length stays", desk.truncateText(797), 797);
        CHECK.dueIllegalState("appendText to 801", () -> desk.appendText(0x20202020));
        CHECK.due("truncateText(796)", desk.truncateText(796), 796);
        CHECK.due("appendText to 800", desk.appendText(0x2020203b), 800);
        CHECK.due("load of ; at the end", desk.load(), -1);
        CHECK.due("code", desk.errorCode(), 1);
        CHECK.due("position", desk.errorPosition(), 799);
        CHECK.due("text is empty after an error", desk.truncateText(0), 0);
        CHECK.dueIllegalArgument("truncateText(1)", () -> desk.truncateText(1));
    }

    private static void goodTexts() {
        good("", 0);
        good(" \n ", 0);
        CircuitDesk desk = good("\n node0012 ;node 3;node\n2;link0 1 99 9;link 2 1 5 1 ; set 0 4;"
                + "set1 1;circuit 5 9 0 1 2;circuit 20 0 1 0;", 2);
        CHECK.due("nodes", desk.count(2), 3);
        CHECK.due("SPACE 0", desk.node(0, 0), 12);
        CHECK.due("SPACE 1", desk.node(1, 0), 3);
        CHECK.due("links", desk.count(3), 2);
        CHECK.due("ONE", desk.link(1, 0), 2);
        CHECK.due("OTHER", desk.link(1, 1), 1);
        CHECK.due("CAPACITY", desk.link(0, 2), 99);
        CHECK.due("DELAY", desk.link(0, 3), 9);
        CHECK.due("up", desk.link(1, 4), 1);
        CHECK.due("BORROW", desk.count(0), 4);
        CHECK.due("ORDER", desk.count(1), 1);
        CHECK.due("BAND", desk.circuit(0, 2), 5);
        CHECK.due("PERIOD", desk.circuit(0, 3), 9);
        CHECK.due("phase", desk.circuit(0, 4), 0);
        CHECK.due("backlog", desk.circuit(0, 6), 0);
        CHECK.due("way", desk.way(0, false, 2, 0), 2);
        CHECK.due("label of node 1", desk.way(0, false, 1, 2), 0);
        CHECK.due("made entry", desk.label(1, 0, 3), 1);
        CHECK.due("reserved", desk.link(0, 5), 25);
        good("node1;node1;link 0 1 1 1;", 0);
        good("node 000000000000000000000000000000000001;", 0);
        good(SEVEN_IN_A_ROW + "circuit 1 0 0 1 2 3 4 5;", 1);
        good(TEN_NODES, 0);
        desk = good("node1;node1;link0 1 9 1;circuit 1 0 0 1;set 0 0;", 1);
        CHECK.due("a made entry", desk.node(1, 5), 1);
        desk = good("node1;node1;node2;link0 1 9 1;link1 2 9 1;circuit 1 0 0 1;"
                + "circuit 1 0 0 1;", 2);
        CHECK.due("a label is lent in a setup", desk.way(1, false, 1, 1), 2);
        CHECK.due("its number", desk.way(1, false, 1, 2), 1);
    }

    private static void notAllowed() {
        error(";", 1, 0);
        error("5", 1, 0);
        error("nodes 5;", 1, 0);
        error("nod 5;", 1, 0);
        error("mode 5;", 1, 0);
        error("nodea 5;", 1, 0);
        error("nodez 5;", 1, 0);
        error("node` 5;", 1, 4);
        error("node{ 5;", 1, 4);
        error("node 5/;", 1, 6);
        error("node 5:;", 1, 6);
        error("Node 5;", 1, 0);
        error("no#de 5;", 1, 0);
        error("node 5 5;", 1, 7);
        error("node;", 1, 4);
        error("node x;", 1, 5);
        error("node -1;", 1, 5);
        error("node 5;\tnode 5;", 1, 7);
        error("node 5;\r\n", 1, 7);
        error("node 5;\u00e9", 1, 7);
        error("node 5;\0", 1, 7);
        error("node 5;;", 1, 7);
        error("node 1;node 1;link 0 1 9;", 1, 24);
        error("node 1;node 1;link 0 1 9 1 1;", 1, 27);
        error("set 0 0 0;", 1, 8);
        error("set;", 1, 3);
        error("node 1;node 1;link 0 1 9 1;circuit 1 0;", 1, 38);
        error("node 1;node 1;link 0 1 9 1;circuit 1 0 0;", 1, 40);
        error("node 1;node 1;link 0 1 9 1;circuit 1 0 0 1 x;", 1, 43);
        error("node 1;node 1;link 0 1 9 1;circuit 1;", 1, 36);
    }

    private static void tooEarly() {
        error("node", 1, 4);
        error("node ", 1, 5);
        error("node 5", 1, 6);
        error("node 5 \n ", 1, 9);
        error("circuit", 1, 7);
        error("node 1;node 1;link 0", 1, 20);
        error("node 1;node 1;link 0 1 9 1;circuit 1 0 0", 1, 40);
        error("node 1;node 1;link 0 1 9 1;circuit 1 0 0 1", 1, 42);
        error("set 0", 1, 5);
    }

    private static void outOfRange() {
        error("node 0;", 2, 5);
        error("node 13;", 2, 5);
        error("node 99999999999999999999999999;", 2, 5);
        error("node 4294967297;", 2, 5);
        error("link 0 1 9 1;", 2, 5);
        error("node 1;link 1 0 9 1;", 2, 12);
        error("node 1;link 0 1 9 1;", 2, 14);
        error("node 1;node 1;link 0 1 0 1;", 2, 23);
        error("node 1;node 1;link 0 1 100 1;", 2, 23);
        error("node 1;node 1;link 0 1 99 0;", 2, 26);
        error("node 1;node 1;link 0 1 99 10;", 2, 26);
        error("circuit 0 0 0 0;", 2, 8);
        error("circuit 21 0 0 0;", 2, 8);
        error("circuit 20 10 0 0;", 2, 11);
        error("circuit 20 9 0 0;", 2, 13);
        error("node 1;node 1;link 0 1 9 1;circuit 1 0 0 2;", 2, 41);
        error("set 2 0;", 2, 4);
        error("set 0 5;", 2, 6);
        error("set 1 2;", 2, 6);
    }

    private static void tooMany() {
        error(TEN_NODES + "node 1;", 3, 70);
        error(TEN_NODES + " node", 3, 71);
        StringBuilder links = new StringBuilder(TEN_NODES);
        for (int i = 0; i < 9; i++) {
            links.append("link ").append(i).append(' ').append(i + 1).append(" 9 1;");
        }
        for (int i = 0; i < 7; i++) {
            links.append("link ").append(i).append(' ').append(i + 2).append(" 9 1;");
        }
        CircuitDesk desk = good(links.toString(), 0);
        CHECK.due("links", desk.count(3), 16);
        error(links + "link 0 1 9 1;", 3, links.length());
        StringBuilder circuits = new StringBuilder("node 9;node 9;link 0 1 99 1;");
        for (int i = 0; i < 8; i++) {
            circuits.append("circuit 1 0 0 1;");
        }
        good(circuits.toString(), 8);
        error(circuits + "circuit 1 0 0 1;", 3, circuits.length());
        String seven = SEVEN_IN_A_ROW + "circuit 1 0 0 1 2 3 4 5 6;";
        error(seven, 3, seven.length() - 2);
    }

    private static void wrongNodes() {
        error("node 1;node 1;link 0 0 9 1;", 4, 21);
        error("node 1;node 1;link 0 1 9 1;link 0 1 9 1;", 4, 34);
        error("node 1;node 1;link 0 1 9 1;link 1 0 9 1;", 4, 34);
        error("node 1;node 1;link 0 1 9 1;circuit 1 0 0 0;", 4, 41);
        error("node 1;node 1;link 0 1 9 1;circuit 1 0 0 1 0;", 4, 43);
        error("node 1;node 1;node 1;link 0 1 9 1;circuit 1 0 0 2;", 4, 48);
    }

    private static void notToHave() {
        error("node 1;node 1;link 0 1 9 1;circuit 10 0 0 1;", 5, 42);
        error("node 2;node 2;link 0 1 9 1;circuit 5 0 0 1;circuit 5 0 0 1;", 5, 57);
        error("node 1;node 1;link 0 1 9 1;set 0 0;circuit 1 0 0 1;circuit 1 0 0 1;", 5, 65);
        error("node 1;node 1;link 0 1 9 1;circuit 1 0 1 0;circuit 1 0 0 1;circuit 1 0 0 1;",
                5, 73);
    }

    private static void leastCode() {
        error(SEVEN_IN_A_ROW + "circuit 1 0 0 1 2 3 4 5 7;", 2, SEVEN_IN_A_ROW.length() + 24);
        error(SEVEN_IN_A_ROW + "circuit 1 0 0 1 2 3 4 5 0;", 3, SEVEN_IN_A_ROW.length() + 24);
        error(SEVEN_IN_A_ROW + "circuit 1 0 0 1 2 3 4 5 ;x", 1, SEVEN_IN_A_ROW.length() + 25);
        error("node 1;node 1;node 1;link 0 1 9 1;circuit 10 0 0 2;", 4, 49);
    }

    /** After an error everything else stays; after none all but the saved states is new. */
    private static void whatStays() {
        CircuitDesk desk = Check.desk("node 3;node 3;link 0 1 9 2;circuit 1 1 0 1;set 0 3;");
        desk.run(4);
        desk.draft(1);
        CHECK.due("load with an error", Check.load(desk, "node 5;node 13;"), -1);
        CHECK.due("nodes stay", desk.count(2), 2);
        CHECK.due("time stays", desk.count(5), 4);
        CHECK.due("BORROW stays", desk.count(0), 3);
        CHECK.due("packets stay", desk.count(6), 2);
        CHECK.due("the draft stays", desk.draftNode(0), 1);
        desk.save(1);
        CHECK.due("load", Check.load(desk, "node 5;"), 0);
        CHECK.due("code", desk.errorCode(), 0);
        CHECK.due("position", desk.errorPosition(), -1);
        int[] due = {1, 0, 1, 0, 0, 0, 0, 0, 0, 0, 0, 0, 0, 0, 0, 0, 0};
        for (int what = 0; what <= 16; what++) {
            CHECK.due("count(" + what + ") after load", desk.count(what), due[what]);
        }
        desk.restore(1);
        CHECK.due("the saved state stays", desk.count(5), 4);
        CHECK.due("load with an error", Check.load(desk, "x"), -1);
        desk.restore(1);
        CHECK.due("code stays after restore", desk.errorCode(), 1);
        CHECK.due("position stays after restore", desk.errorPosition(), 0);
    }

    /** A setup in place of one whose circuit is moved, in each state of its move. */
    private static void noMoveIsLeft() {
        String net = "node 4;node 4;node 4;link 0 1 9 5;link 1 2 9 1;link 0 2 9 1;";
        for (int ticks = 0; ticks < 11; ticks++) {
            CircuitDesk desk = Check.desk(net + "circuit 1 1 0 1 2;set 1 1;");
            desk.moveBest(0, -1);
            desk.run(ticks + 1);
            for (int i = 0; i < 2; i++) {
                CHECK.due("load", Check.load(desk, net + "circuit 1 1 0 2;"), 1);
                for (int what : new int[] {4, 6, 11, 12, 13, 14}) {
                    CHECK.due("circuit(0, " + what + ")", desk.circuit(0, what), 0);
                }
                CHECK.due("movedIn", desk.movedIn(0), 0);
                CHECK.due("no new way", desk.way(0, true, 0, 0), -1);
                Check.draft(desk, 0, 1, 2);
                CHECK.due("move", desk.move(0), 0);
            }
            CHECK.due("load", Check.load(desk, net + "circuit 1 1 0 2;"), 1);
            CHECK.due("entries to make", desk.circuit(0, 14), 0);
        }
    }

    /** Whatever was there, a setup begins with nothing; so does each circuit in it. */
    private static void nothingIsLeft() {
        CircuitDesk desk = new CircuitDesk();
        String text = "node 3;node 3;node 3;link 0 1 9 5;link 1 2 9 1;link 0 2 9 1;";
        for (int i = 0; i < 4; i++) {
            CHECK.due("load", Check.load(desk, text + "circuit 1 1 0 1 2;set 0 3;set 1 1;"), 1);
            CHECK.due("time", desk.count(5), 0);
            desk.run(9);
            desk.set(1, 0);
            desk.moveBest(0, -1);
            desk.run(9);
            CHECK.due("abort", desk.abort(0), 7);
            desk.run(desk.movedIn(0));
            desk.setUp(2, false);
            desk.offer(0, 9);
            desk.moveBest(0, 2);
            desk.abort(0);
            desk.set(1, 1);
            desk.setUp(2, true);
            Check.draft(desk, 0, 1, 2);
            desk.move(0);
            desk.run(4 - i);
            for (int what : new int[] {7, 8, 9, 10, 11, 14, 15}) {
                CHECK.dueTrue("count(" + what + ")", desk.count(what) > 0);
            }
        }
        int read = Check.load(desk, "node 3;node 3;node 3;link 1 2 9 1;circuit 1 0 1 2;");
        CHECK.due("load", read, 1);
        int[] due = {1, 0, 3, 1, 1, 0, 0, 0, 0, 0, 0, 0, 0, 0, 0, 0, 0};
        for (int what = 0; what <= 16; what++) {
            CHECK.due("count(" + what + ") after load", desk.count(what), due[what]);
        }
        int[] circuit = {1, 2, 1, 0, 0, 1, 0, 0, 0, 0, 0, 0, 0, 0, 0};
        for (int what = 0; what <= 14; what++) {
            CHECK.due("circuit(0, " + what + ") after load", desk.circuit(0, what), circuit[what]);
        }
        CHECK.dueD("mean delay after load", desk.meanDelay(0), -1.0);
        CHECK.due("no new way", desk.way(0, true, 0, 0), -1);
        CHECK.due("the links of before are gone", desk.node(0, 6), 0);
        CHECK.due("the labels of before are free", desk.node(2, 1), 2);
        desk.offer(0, 3);
        desk.run(4);
        CHECK.dueD("mean delay anew", desk.meanDelay(0), 1.0);
        CHECK.due("none is late", desk.count(11), 0);
        CHECK.due("an empty setup", Check.load(desk, ""), 0);
        desk.addNode(2);
        CHECK.due("its labels are free", desk.node(0, 1), 2);
    }
}
