/** Setups and desks that several tests begin with. */
final class Nets {
    private Nets() {
    }

    static String times(int many, String statement) {
        return statement.repeat(many);
    }

    /** Nodes in a row, each with a link to the next one: the link i is between i and i + 1. */
    static String row(int nodes, int space, int capacity, int delay) {
        StringBuilder text = new StringBuilder(times(nodes, "node " + space + ";"));
        for (int i = 0; i + 1 < nodes; i++) {
            text.append("link ").append(i).append(' ').append(i + 1).append(' ').append(capacity)
                    .append(' ').append(delay).append(';');
        }
        return text.toString();
    }

    /** Two nodes and the link between them. */
    static String pair(int space, int capacity, int delay) {
        return row(2, space, capacity, delay);
    }

    /** Three nodes, with the links 0-1, 1-2 and 0-2 of these DELAYS. */
    static String triangle(int space, int capacity, int first, int second, int direct) {
        return times(3, "node " + space + ";") + "link 0 1 " + capacity + " " + first
                + ";link 1 2 " + capacity + " " + second + ";link 0 2 " + capacity + " " + direct
                + ";";
    }

    /** Ten nodes and 16 links, so that there is no room for more of both. */
    static CircuitDesk full() {
        CircuitDesk desk = new CircuitDesk();
        for (int i = 0; i < 10; i++) {
            desk.addNode(1);
        }
        for (int i = 0; i < 16; i++) {
            addLink(desk, i);
        }
        return desk;
    }

    /** The first nine links make a row, the next seven pass over a node each. */
    static int addLink(CircuitDesk desk, int i) {
        return i < 9 ? desk.addLink(i, i + 1, 9, 1) : desk.addLink(i - 9, i - 7, 9, 1);
    }

    /** As many circuits as are asked for, with the BANDs 1, 2, 3, .. from node 0 to node 1. */
    static CircuitDesk circuits(int many) {
        StringBuilder text = new StringBuilder(pair(12, 99, 1));
        for (int i = 1; i <= many; i++) {
            text.append("circuit ").append(i).append(" 0 0 1;");
        }
        return Check.desk(text.toString());
    }

    /** Eight circuits over a slow way, with as many packets on it as are asked for. */
    static CircuitDesk packets(int many) {
        CircuitDesk desk = Check.desk(row(3, 9, 99, 9) + times(8, "circuit 1 0 0 1 2;"));
        int left = many;
        while (left > 0) {
            for (int c = 0; c < 8 && left > 0; c++) {
                desk.offer(c, 1);
                left--;
            }
            desk.run(1);
        }
        return desk;
    }

    /**
     * A desk on which all has happened that is counted: labels are lent, packets were late, lost
     * and dropped, moves completed and aborted. ORDER is 1, and circuit 0 is as many ticks behind
     * the beginning of a move: 1 entry, switching over, 6 ticks to drain, 2 labels.
     */
    static CircuitDesk rich(int ticks) {
        CircuitDesk desk = Check.desk("node 1;node 1;node 4;link 1 0 20 5;link 2 1 21 1;"
                + "link 0 2 22 1;set 0 3;circuit 2 1 0 1 2;circuit 3 0 0 1 2;");
        desk.run(9);
        move(desk, 0, 0, 2);
        desk.abort(0);
        move(desk, 0, 0, 2);
        desk.run(desk.movedIn(0));
        desk.offer(1, 9);
        desk.offer(1, 9);
        desk.setUp(2, false);
        desk.setUp(2, true);
        desk.set(1, 1);
        move(desk, 0, 0, 1, 2);
        desk.run(desk.movedIn(0));
        desk.setUp(1, false);
        desk.setUp(1, true);
        move(desk, 0, 0, 2);
        if (ticks > 0) {
            desk.run(ticks);
        }
        return desk;
    }

    /** Opens a circuit along a way; answers what open() does. */
    static int open(CircuitDesk desk, int band, int... nodes) {
        Check.draft(desk, nodes);
        return desk.open(band, 0);
    }

    static int move(CircuitDesk desk, int circuit, int... nodes) {
        Check.draft(desk, nodes);
        return desk.move(circuit);
    }
}
