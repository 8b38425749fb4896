/**
 * Circuits with labels that are moved from way to way without a loss. The face throws what the
 * document says; the classes inside it test each index themselves and never throw.
 */
public final class CircuitDesk {
    public static final int NONE = -1;

    private static final int MAX_NODES = 10;
    private static final int MAX_SPACE = 12;
    private static final int MAX_LINKS = 16;
    private static final int MAX_CAPACITY = 99;
    private static final int MAX_DELAY = 9;
    private static final int MAX_CIRCUITS = 8;
    private static final int MAX_BAND = 20;
    private static final int MAX_PERIOD = 9;
    private static final int MAX_WAY = 6;
    private static final int MAX_PACKETS = 60;
    private static final int MAX_BACKLOG = 9;
    private static final int MAX_TEXT = 800;
    private static final int MAX_TICKS = 200;
    private static final int MAX_BORROW = 4;
    private static final int MAX_ORDER = 1;
    private static final int SAVED_STATES = 2;
    private static final int ALL_LABELS = MAX_NODES * MAX_SPACE;

    private static final int DONE = 0;
    private static final int TOO_MANY_CIRCUITS = 1;
    private static final int MOVED_ALREADY = 2;
    private static final int NO_WAY = 3;
    private static final int SAME_WAY = 4;
    private static final int NO_ROOM = 5;
    private static final int NO_LABEL = 6;
    private static final int NOT_BUILDING = 7;
    private static final int HAS_PACKETS = 8;

    private static final int AT_REST = 0;
    private static final int BUILDING = 1;
    private static final int DRAINING = 2;
    private static final int CLEARING = 3;

    private final SetupReader reader = new SetupReader();
    private final Finder finder = new Finder();
    private final Way draftWay = new Way();
    private final State[] savedStates = new State[SAVED_STATES];
    private final boolean[] isSaved = new boolean[SAVED_STATES];
    private State now = new State();
    /** Where predictions and setup texts are played through, so that a run makes no new states. */
    private State spare = new State();
    private int latestCode = 0;
    private int latestPosition = NONE;

    public CircuitDesk() {
        for (int i = 0; i < SAVED_STATES; i++) {
            savedStates[i] = new State();
        }
    }

    // ---- setup texts

    public int appendText(int fourBytes) throws IllegalStateException {
        if (!reader.tokens.appendFour(fourBytes)) {
            throw new IllegalStateException("the text would be too long");
        }
        return reader.tokens.textLength;
    }

    public int truncateText(int length) throws IllegalArgumentException {
        if (isOutside(length, 0, reader.tokens.textLength)) {
            throw new IllegalArgumentException("length is out of range");
        }
        reader.tokens.textLength = length;
        return length;
    }

    public int load() {
        boolean isRead = reader.readSetup(spare);
        latestCode = reader.code;
        latestPosition = reader.position;
        reader.tokens.textLength = 0;
        if (!isRead) {
            return NONE;
        }
        State replaced = now;
        now = spare;
        spare = replaced;
        draftWay.erase();
        return now.circuitCount;
    }

    public int errorCode() {
        return latestCode;
    }

    public int errorPosition() {
        return latestPosition;
    }

    // ---- nodes and links

    public int addNode(int space) throws IllegalArgumentException, IllegalStateException {
        if (isOutside(space, 1, MAX_SPACE)) {
            throw new IllegalArgumentException("space is out of range");
        }
        if (now.net.nodeCount >= MAX_NODES) {
            throw new IllegalStateException("there are 10 nodes");
        }
        return now.appendNode(space);
    }

    public int addLink(int one, int other, int capacity, int delay)
            throws IndexOutOfBoundsException, IllegalArgumentException, IllegalStateException {
        checkNode(one);
        checkNode(other);
        if (one == other) {
            throw new IllegalArgumentException("both nodes are the same");
        }
        if (isOutside(capacity, 1, MAX_CAPACITY) || isOutside(delay, 1, MAX_DELAY)) {
            throw new IllegalArgumentException("capacity or delay is out of range");
        }
        if (now.net.linkBetween(one, other) != NONE || now.net.linkCount >= MAX_LINKS) {
            throw new IllegalStateException("there is such a link, or there are 16 links");
        }
        return now.net.appendLink(one, other, capacity, delay);
    }

    public boolean setUp(int link, boolean isUp) throws IndexOutOfBoundsException {
        checkLink(link);
        boolean wasUp = now.net.isUp(link);
        now.putUp(link, isUp);
        return wasUp;
    }

    public int set(int what, int value) throws IllegalArgumentException {
        if (isOutside(what, 0, 1)) {
            throw new IllegalArgumentException("what is out of range");
        }
        if (isOutside(value, 0, what == 0 ? MAX_BORROW : MAX_ORDER)) {
            throw new IllegalArgumentException("value is out of the range of the setting");
        }
        int previous = what == 0 ? now.borrow : now.order;
        now.putSetting(what, value);
        return previous;
    }

    public int count(int what) throws IllegalArgumentException {
        checkWhat(what, 16);
        switch (what) {
            case 0: return now.borrow;
            case 1: return now.order;
            case 2: return now.net.nodeCount;
            case 3: return now.net.linkCount;
            case 4: return now.circuitCount;
            case 5: return now.time;
            case 6: return now.packetCount;
            case 7: return now.totals.sent;
            case 8: return now.totals.delivered;
            case 9: return now.totals.lost;
            case 10: return now.totals.dropped;
            case 11: return now.totals.late;
            case 12: return now.labels.lentByAll();
            case 13: return now.movedCircuits();
            case 14: return now.totals.completed;
            case 15: return now.totals.aborted;
            default: return draftWay.length;
        }
    }

    public int node(int node, int what) throws IndexOutOfBoundsException, IllegalArgumentException {
        checkNode(node);
        checkWhat(what, 6);
        switch (what) {
            case 0: return now.labels.spaceOf(node);
            case 1: return now.labels.held(node, NONE);
            case 2: return now.labels.held(node, node);
            case 3: return now.labels.lentBy(node);
            case 4: return now.labels.borrowedBy(node);
            case 5: return now.labels.madeEntries(node);
            default: return now.net.linksAt(node);
        }
    }

    public int label(int node, int label, int what)
            throws IndexOutOfBoundsException, IllegalArgumentException {
        checkNode(node);
        if (isOutside(label, 0, now.labels.spaceOf(node) - 1)) {
            throw new IndexOutOfBoundsException("there is no such label");
        }
        checkWhat(what, 3);
        int slot = node * MAX_SPACE + label;
        int holder = now.labels.holderOf(slot);
        if (what == 0 || holder == NONE) {
            return holder;
        }
        switch (what) {
            case 1: return now.labels.circuitOf(slot);
            case 2: return now.isOfNewWay(slot) ? 1 : 0;
            default: return now.labels.hasMadeEntry(slot, holder) ? 1 : 0;
        }
    }

    public int link(int link, int what) throws IndexOutOfBoundsException, IllegalArgumentException {
        checkLink(link);
        checkWhat(what, 6);
        Link row = now.net.links[link];
        switch (what) {
            case 0: return row.one;
            case 1: return row.other;
            case 2: return row.capacity;
            case 3: return row.delay;
            case 4: return row.isUp ? 1 : 0;
            case 5: return now.reservedOn(link, NONE);
            default: return now.packetsOn(link);
        }
    }

    // ---- drafts and best ways

    public int draft(int node) throws IndexOutOfBoundsException, IllegalStateException {
        checkNode(node);
        int link = now.net.linkBetween(draftWay.lastNode(), node);
        if (draftWay.length >= MAX_WAY || draftWay.hasNode(node)) {
            throw new IllegalStateException("the draft has 6 nodes, or the node already");
        }
        if (draftWay.length > 0 && link == NONE) {
            throw new IllegalStateException("the node has no link to the last one");
        }
        draftWay.append(node, link);
        return draftWay.length;
    }

    public int clearDraft() {
        int length = draftWay.length;
        draftWay.erase();
        return length;
    }

    public int draftBest(int from, int to, int band)
            throws IndexOutOfBoundsException, IllegalArgumentException {
        checkNode(from);
        checkNode(to);
        if (from == to || isOutside(band, 1, MAX_BAND)) {
            throw new IllegalArgumentException("both nodes are the same, or band is out of range");
        }
        finder.prepare(now, band, NONE);
        if (!finder.search(now.net, from, to, NONE)) {
            return NONE;
        }
        draftWay.copyNodes(finder.best);
        return draftWay.length;
    }

    public int draftNode(int index) throws IndexOutOfBoundsException {
        checkIndex(index);
        return draftWay.nodeAt(index);
    }

    // ---- acts

    public int open(int band, int period) throws IllegalArgumentException {
        if (isOutside(band, 1, MAX_BAND) || isOutside(period, 0, MAX_PERIOD)) {
            throw new IllegalArgumentException("band or period is out of range");
        }
        int reason = now.openAlong(draftWay, band, period);
        if (reason == DONE) {
            draftWay.erase();
        }
        return reason;
    }

    public int close(int circuit) throws IndexOutOfBoundsException {
        checkCircuit(circuit);
        return now.closeCircuit(circuit);
    }

    public int move(int circuit) throws IndexOutOfBoundsException {
        checkCircuit(circuit);
        int reason = now.moveAlong(circuit, draftWay);
        if (reason == DONE) {
            draftWay.erase();
        }
        return reason;
    }

    public int moveBest(int circuit, int link) throws IndexOutOfBoundsException {
        checkCircuit(circuit);
        checkLinkOrNone(link);
        return moveToBest(now, circuit, link);
    }

    public int abort(int circuit) throws IndexOutOfBoundsException {
        checkCircuit(circuit);
        return now.abortMove(circuit);
    }

    public int offer(int circuit, int many)
            throws IndexOutOfBoundsException, IllegalArgumentException {
        checkCircuit(circuit);
        if (isOutside(many, 1, MAX_BACKLOG)) {
            throw new IllegalArgumentException("many is out of range");
        }
        Circuit row = now.circuits[circuit];
        now.addToBacklog(row, many);
        return row.backlog;
    }

    // ---- time

    public int run(int ticks) throws IllegalArgumentException {
        checkTicks(ticks);
        int before = now.totals.delivered;
        for (int i = 0; i < ticks; i++) {
            now.tick();
        }
        return now.totals.delivered - before;
    }

    // ---- circuits and packets

    public int circuit(int circuit, int what)
            throws IndexOutOfBoundsException, IllegalArgumentException {
        checkCircuit(circuit);
        checkWhat(what, 14);
        Circuit row = now.circuits[circuit];
        switch (what) {
            case 0: return row.old.nodeAt(0);
            case 1: return row.old.lastNode();
            case 2: return row.band;
            case 3: return row.period;
            case 4: return row.phase;
            case 5: return now.net.delayOf(row.activeWay());
            case 6: return row.backlog;
            case 7: return row.sent;
            case 8: return row.delivered;
            case 9: return row.lost;
            case 10: return row.late;
            case 11: return row.held;
            case 12: return row.drainLeft;
            case 13: return now.packetsOf(circuit);
            default: return row.unmade;
        }
    }

    public int way(int circuit, boolean isNew, int index, int what)
            throws IndexOutOfBoundsException, IllegalArgumentException {
        checkCircuit(circuit);
        checkIndex(index);
        checkWhat(what, 2);
        Way asked = isNew ? now.circuits[circuit].fresh : now.circuits[circuit].old;
        if (what == 0) {
            return asked.nodeAt(index);
        }
        int slot = asked.slotAt(index);
        return what == 1 ? spaceOfSlot(slot) : labelOfSlot(slot);
    }

    public int packet(int packet, int what)
            throws IndexOutOfBoundsException, IllegalArgumentException {
        if (isOutside(packet, 0, now.packetCount - 1)) {
            throw new IndexOutOfBoundsException("there is no such packet");
        }
        checkWhat(what, 6);
        Packet row = now.packets[packet];
        switch (what) {
            case 0: return row.circuit;
            case 1: return row.number;
            case 2: return row.link;
            case 3: return row.target;
            case 4: return spaceOfSlot(row.slot);
            case 5: return labelOfSlot(row.slot);
            default: return row.ticksLeft;
        }
    }

    public double meanDelay(int circuit) throws IndexOutOfBoundsException {
        checkCircuit(circuit);
        Circuit row = now.circuits[circuit];
        if (row.delivered <= 0) {
            return -1.0;
        }
        return (double) row.delaySum / (double) row.delivered;
    }

    public float usage() {
        int capacities = now.net.allCapacities();
        if (capacities <= 0) {
            return 0.0f;
        }
        return (float) now.reservedOnAll() / (float) capacities;
    }

    // ---- predictions

    public int canMove(int circuit, int link) throws IndexOutOfBoundsException {
        checkCircuit(circuit);
        checkLinkOrNone(link);
        spare.copyFrom(now);
        return moveToBest(spare, circuit, link);
    }

    public int movedIn(int circuit) throws IndexOutOfBoundsException {
        checkCircuit(circuit);
        return now.ticksUntilMoved(now.circuits[circuit]);
    }

    public int ahead(int ticks, int what) throws IllegalArgumentException {
        checkTicks(ticks);
        checkWhat(what, 3);
        spare.copyFrom(now);
        for (int i = 0; i < ticks; i++) {
            spare.tick();
        }
        return fateTotal(spare.totals, what) - fateTotal(now.totals, what);
    }

    public int weakLink() {
        return finder.weakestLink(now);
    }

    // ---- saved states

    public void save(int slot) throws IllegalArgumentException {
        checkSavedSlot(slot);
        savedStates[slot].copyFrom(now);
        isSaved[slot] = true;
    }

    public void restore(int slot) throws IllegalArgumentException, IllegalStateException {
        checkSavedSlot(slot);
        if (!isSaved[slot]) {
            throw new IllegalStateException("nothing is saved there");
        }
        now.copyFrom(savedStates[slot]);
        draftWay.erase();
    }

    // ---- what the face has in common

    private int moveToBest(State state, int circuit, int link) {
        Circuit row = state.circuits[circuit];
        if (row.phase != AT_REST) {
            return MOVED_ALREADY;
        }
        finder.prepare(state, row.band, circuit);
        if (!finder.search(state.net, row.old.nodeAt(0), row.old.lastNode(), link)) {
            return NO_WAY;
        }
        return state.moveAlong(circuit, finder.best);
    }

    private void checkNode(int node) {
        if (!now.net.isNode(node)) {
            throw new IndexOutOfBoundsException("there is no such node");
        }
    }

    private void checkLink(int link) {
        if (!now.net.isLink(link)) {
            throw new IndexOutOfBoundsException("there is no such link");
        }
    }

    private void checkLinkOrNone(int link) {
        if (link != NONE) {
            checkLink(link);
        }
    }

    private void checkCircuit(int circuit) {
        if (!now.isCircuit(circuit)) {
            throw new IndexOutOfBoundsException("there is no such circuit");
        }
    }

    private static void checkIndex(int index) {
        if (index < 0) {
            throw new IndexOutOfBoundsException("index is negative");
        }
    }

    private static void checkWhat(int what, int greatest) {
        if (isOutside(what, 0, greatest)) {
            throw new IllegalArgumentException("what is out of range");
        }
    }

    private static void checkTicks(int ticks) {
        if (isOutside(ticks, 1, MAX_TICKS)) {
            throw new IllegalArgumentException("ticks is out of range");
        }
    }

    private static void checkSavedSlot(int slot) {
        if (isOutside(slot, 0, SAVED_STATES - 1)) {
            throw new IllegalArgumentException("slot is out of range");
        }
    }

    private static boolean isOutside(int value, int least, int greatest) {
        return value < least || value > greatest;
    }

    private static int fateTotal(Totals totals, int what) {
        switch (what) {
            case 0: return totals.delivered;
            case 1: return totals.lost;
            case 2: return totals.late;
            default: return totals.dropped;
        }
    }

    private static int spaceOfSlot(int slot) {
        return slot < 0 ? NONE : slot / MAX_SPACE;
    }

    private static int labelOfSlot(int slot) {
        return slot < 0 ? NONE : slot % MAX_SPACE;
    }

    private static void copyNumbers(int[] from, int[] to) {
        for (int i = 0; i < from.length && i < to.length; i++) {
            to[i] = from[i];
        }
    }

    private static void fillNumbers(int[] row, int value) {
        for (int i = 0; i < row.length; i++) {
            row[i] = value;
        }
    }

    private static final class Link {
        int one;
        int other;
        int capacity;
        int delay;
        boolean isUp;

        void copyFrom(Link from) {
            one = from.one;
            other = from.other;
            capacity = from.capacity;
            delay = from.delay;
            isUp = from.isUp;
        }
    }

    /** The nodes and links, without the labels. */
    private static final class Net {
        int nodeCount;
        int linkCount;
        final Link[] links = new Link[MAX_LINKS];
        /** The link between two nodes, at one * MAX_NODES + other, both ways round. */
        private final int[] between = new int[MAX_NODES * MAX_NODES];

        Net() {
            for (int i = 0; i < MAX_LINKS; i++) {
                links[i] = new Link();
            }
            fillNumbers(between, NONE);
        }

        void erase() {
            nodeCount = 0;
            linkCount = 0;
            fillNumbers(between, NONE);
        }

        void copyFrom(Net from) {
            nodeCount = from.nodeCount;
            linkCount = from.linkCount;
            copyNumbers(from.between, between);
            for (int i = 0; i < linkCount && i < MAX_LINKS; i++) {
                links[i].copyFrom(from.links[i]);
            }
        }

        boolean isNode(int node) {
            return node >= 0 && node < nodeCount;
        }

        boolean isLink(int link) {
            return link >= 0 && link < linkCount;
        }

        int appendLink(int one, int other, int capacity, int delay) {
            if (!isNode(one) || !isNode(other) || linkCount >= MAX_LINKS) {
                return NONE;
            }
            Link row = links[linkCount];
            row.one = one;
            row.other = other;
            row.capacity = capacity;
            row.delay = delay;
            row.isUp = true;
            between[one * MAX_NODES + other] = linkCount;
            between[other * MAX_NODES + one] = linkCount;
            linkCount++;
            return linkCount - 1;
        }

        int linkBetween(int one, int other) {
            if (one < 0 || one >= nodeCount || other < 0 || other >= nodeCount) {
                return NONE;
            }
            return between[one * MAX_NODES + other];
        }

        int linksAt(int node) {
            int sum = 0;
            for (int other = 0; other < nodeCount; other++) {
                if (linkBetween(node, other) != NONE) {
                    sum++;
                }
            }
            return sum;
        }

        boolean isUp(int link) {
            return isLink(link) && links[link].isUp;
        }

        int delayOn(int link) {
            return isLink(link) ? links[link].delay : 0;
        }

        int delayOf(Way way) {
            int sum = 0;
            for (int i = 1; i < way.length; i++) {
                sum += delayOn(way.linkAt(i));
            }
            return sum;
        }

        int allCapacities() {
            int sum = 0;
            for (int i = 0; i < linkCount; i++) {
                sum += links[i].capacity;
            }
            return sum;
        }
    }

    /** A row of different nodes; a draft is one, too, and may be shorter than two nodes. */
    private static final class Way {
        int length;
        private final int[] nodes = new int[MAX_WAY];
        /** The link to each node from the one before it. */
        private final int[] links = new int[MAX_WAY];
        /** The label of each node, as a slot of the label table. */
        private final int[] slots = new int[MAX_WAY];

        void erase() {
            length = 0;
        }

        void append(int node, int link) {
            if (length >= 0 && length < MAX_WAY) {
                nodes[length] = node;
                links[length] = link;
                slots[length] = NONE;
                length++;
            }
        }

        void dropLast() {
            if (length > 0) {
                length--;
            }
        }

        void copyNodes(Way from) {
            length = from.length;
            for (int i = 0; i < MAX_WAY; i++) {
                nodes[i] = from.nodes[i];
                links[i] = from.links[i];
                slots[i] = NONE;
            }
        }

        void copyFrom(Way from) {
            length = from.length;
            copyNumbers(from.nodes, nodes);
            copyNumbers(from.links, links);
            copyNumbers(from.slots, slots);
        }

        int nodeAt(int index) {
            return index >= 0 && index < length ? nodes[index] : NONE;
        }

        int linkAt(int index) {
            return index >= 0 && index < length ? links[index] : NONE;
        }

        int slotAt(int index) {
            return index >= 0 && index < length ? slots[index] : NONE;
        }

        void putSlot(int index, int slot) {
            if (index >= 0 && index < length) {
                slots[index] = slot;
            }
        }

        int lastNode() {
            return nodeAt(length - 1);
        }

        boolean hasNode(int node) {
            for (int i = 0; i < length; i++) {
                if (nodes[i] == node) {
                    return true;
                }
            }
            return false;
        }

        boolean usesLink(int link) {
            for (int i = 1; i < length; i++) {
                if (links[i] == link) {
                    return true;
                }
            }
            return false;
        }

        int indexOfSlot(int slot) {
            for (int i = 1; i < length; i++) {
                if (slots[i] == slot) {
                    return i;
                }
            }
            return NONE;
        }

        int heldSlots() {
            int sum = 0;
            for (int i = 1; i < length; i++) {
                if (slots[i] != NONE) {
                    sum++;
                }
            }
            return sum;
        }

        boolean isSameAs(Way other) {
            if (length != other.length) {
                return false;
            }
            for (int i = 0; i < length; i++) {
                if (nodes[i] != other.nodes[i]) {
                    return false;
                }
            }
            return true;
        }
    }

    /** The labels of all spaces; a slot is space * MAX_SPACE + label. */
    private static final class Labels {
        private final int[] spaces = new int[MAX_NODES];
        private final int[] holders = new int[ALL_LABELS];
        private final int[] circuits = new int[ALL_LABELS];
        private final int[] made = new int[ALL_LABELS];

        Labels() {
            fillNumbers(holders, NONE);
        }

        void erase() {
            fillNumbers(spaces, 0);
            fillNumbers(holders, NONE);
        }

        void copyFrom(Labels from) {
            copyNumbers(from.spaces, spaces);
            copyNumbers(from.holders, holders);
            copyNumbers(from.circuits, circuits);
            copyNumbers(from.made, made);
        }

        void putSpace(int node, int space) {
            if (node >= 0 && node < MAX_NODES) {
                spaces[node] = space;
            }
        }

        int spaceOf(int node) {
            return node >= 0 && node < MAX_NODES ? spaces[node] : 0;
        }

        private static boolean isSlot(int slot) {
            return slot >= 0 && slot < ALL_LABELS;
        }

        int holderOf(int slot) {
            return isSlot(slot) ? holders[slot] : NONE;
        }

        int circuitOf(int slot) {
            return isSlot(slot) && holders[slot] != NONE ? circuits[slot] : NONE;
        }

        boolean hasMadeEntry(int slot, int node) {
            return isSlot(slot) && holders[slot] == node && made[slot] == 1;
        }

        /** How many labels of a space a node has; with NONE, how many nobody has. */
        int held(int space, int holder) {
            int sum = 0;
            if (space < 0 || space >= MAX_NODES) {
                return sum;
            }
            for (int i = 0; i < spaces[space] && i < MAX_SPACE; i++) {
                if (holders[space * MAX_SPACE + i] == holder) {
                    sum++;
                }
            }
            return sum;
        }

        int lentBy(int node) {
            return spaceOf(node) - held(node, NONE) - held(node, node);
        }

        int lentByAll() {
            int sum = 0;
            for (int i = 0; i < MAX_NODES; i++) {
                sum += lentBy(i);
            }
            return sum;
        }

        int borrowedBy(int node) {
            int sum = 0;
            for (int i = 0; i < MAX_NODES; i++) {
                if (i != node) {
                    sum += held(i, node);
                }
            }
            return sum;
        }

        int madeEntries(int node) {
            int sum = 0;
            for (int i = 0; i < ALL_LABELS; i++) {
                if (holders[i] == node && made[i] == 1) {
                    sum++;
                }
            }
            return sum;
        }

        /** Gives a node a label without a made entry; answers its slot, NONE if it gets none. */
        int take(Net net, int node, int circuit, int borrow) {
            int slot = lowestFree(node);
            if (slot == NONE && borrowedBy(node) < borrow) {
                slot = highestFree(lenderFor(net, node));
            }
            if (slot != NONE) {
                holders[slot] = node;
                circuits[slot] = circuit;
                made[slot] = 0;
            }
            return slot;
        }

        private int lowestFree(int space) {
            int labels = spaceOf(space);
            for (int i = 0; i < labels; i++) {
                if (holders[space * MAX_SPACE + i] == NONE) {
                    return space * MAX_SPACE + i;
                }
            }
            return NONE;
        }

        private int highestFree(int space) {
            for (int i = spaceOf(space) - 1; i >= 0; i--) {
                if (holders[space * MAX_SPACE + i] == NONE) {
                    return space * MAX_SPACE + i;
                }
            }
            return NONE;
        }

        private int lenderFor(Net net, int node) {
            int lender = NONE;
            int most = 0;
            for (int i = 0; i < net.nodeCount; i++) {
                int free = net.linkBetween(node, i) == NONE ? 0 : held(i, NONE);
                if (free > most) {
                    lender = i;
                    most = free;
                }
            }
            return lender;
        }

        void makeEntry(int slot) {
            if (isSlot(slot)) {
                made[slot] = 1;
            }
        }

        void giveUp(int slot) {
            if (isSlot(slot)) {
                holders[slot] = NONE;
            }
        }

        /** The circuits behind a closed one have numbers that are 1 less. */
        void renumberBehind(int circuit) {
            for (int i = 0; i < ALL_LABELS; i++) {
                if (circuits[i] > circuit) {
                    circuits[i]--;
                }
            }
        }
    }

    private static final class Circuit {
        int band;
        int period;
        int phase;
        int backlog;
        int sent;
        int delivered;
        int lost;
        int late;
        int held;
        int drainLeft;
        /** The entries of the new way that are not made yet. */
        int unmade;
        int delaySum;
        /** The greatest number of a packet that was delivered. */
        int greatest;
        Way old = new Way();
        Way fresh = new Way();

        void begin(int newBand, int newPeriod) {
            band = newBand;
            period = newPeriod;
            phase = AT_REST;
            backlog = 0;
            sent = 0;
            delivered = 0;
            lost = 0;
            late = 0;
            held = 0;
            drainLeft = 0;
            unmade = 0;
            delaySum = 0;
            greatest = NONE;
            old.erase();
            fresh.erase();
        }

        void copyFrom(Circuit from) {
            band = from.band;
            period = from.period;
            phase = from.phase;
            backlog = from.backlog;
            sent = from.sent;
            delivered = from.delivered;
            lost = from.lost;
            late = from.late;
            held = from.held;
            drainLeft = from.drainLeft;
            unmade = from.unmade;
            delaySum = from.delaySum;
            greatest = from.greatest;
            old.copyFrom(from.old);
            fresh.copyFrom(from.fresh);
        }

        Way activeWay() {
            return phase == DRAINING || phase == CLEARING ? fresh : old;
        }

        Way wayWithSlot(int slot) {
            return fresh.indexOfSlot(slot) != NONE ? fresh : old;
        }

        boolean hasEndsOf(Way way) {
            return way.length >= 2
                    && way.nodeAt(0) == old.nodeAt(0) && way.lastNode() == old.lastNode();
        }

        void takeNewWay() {
            Way cleared = old;
            old = fresh;
            fresh = cleared;
            fresh.erase();
            phase = AT_REST;
        }
    }

    private static final class Packet {
        int circuit;
        int number;
        int sentAt;
        int link;
        int target;
        int slot;
        int ticksLeft;

        void copyFrom(Packet from) {
            circuit = from.circuit;
            number = from.number;
            sentAt = from.sentAt;
            link = from.link;
            target = from.target;
            slot = from.slot;
            ticksLeft = from.ticksLeft;
        }

        void putOnLinkTo(Way way, int index, Net net) {
            link = way.linkAt(index);
            target = way.nodeAt(index);
            slot = way.slotAt(index);
            ticksLeft = net.delayOn(link);
        }
    }

    /** What is counted over all circuits, the closed ones too. */
    private static final class Totals {
        int sent;
        int delivered;
        int lost;
        int dropped;
        int late;
        int completed;
        int aborted;

        void erase() {
            sent = 0;
            delivered = 0;
            lost = 0;
            dropped = 0;
            late = 0;
            completed = 0;
            aborted = 0;
        }

        void copyFrom(Totals from) {
            sent = from.sent;
            delivered = from.delivered;
            lost = from.lost;
            dropped = from.dropped;
            late = from.late;
            completed = from.completed;
            aborted = from.aborted;
        }
    }

    /** All that can be saved. The rows behind the counts are kept to be used again. */
    private static final class State {
        final Net net = new Net();
        final Labels labels = new Labels();
        final Totals totals = new Totals();
        final Circuit[] circuits = new Circuit[MAX_CIRCUITS];
        final Packet[] packets = new Packet[MAX_PACKETS];
        int circuitCount = 0;
        int packetCount = 0;
        int borrow = 1;
        int order = 0;
        int time = 0;

        State() {
            for (int i = 0; i < MAX_CIRCUITS; i++) {
                circuits[i] = new Circuit();
            }
            for (int i = 0; i < MAX_PACKETS; i++) {
                packets[i] = new Packet();
            }
        }

        void erase() {
            net.erase();
            labels.erase();
            totals.erase();
            circuitCount = 0;
            packetCount = 0;
            borrow = 1;
            order = 0;
            time = 0;
        }

        void copyFrom(State from) {
            net.copyFrom(from.net);
            labels.copyFrom(from.labels);
            totals.copyFrom(from.totals);
            circuitCount = from.circuitCount;
            packetCount = from.packetCount;
            borrow = from.borrow;
            order = from.order;
            time = from.time;
            for (int i = 0; i < circuitCount && i < MAX_CIRCUITS; i++) {
                circuits[i].copyFrom(from.circuits[i]);
            }
            for (int i = 0; i < packetCount && i < MAX_PACKETS; i++) {
                packets[i].copyFrom(from.packets[i]);
            }
        }

        boolean isCircuit(int circuit) {
            return circuit >= 0 && circuit < circuitCount;
        }

        int appendNode(int space) {
            labels.putSpace(net.nodeCount, space);
            net.nodeCount++;
            return net.nodeCount - 1;
        }

        void putSetting(int what, int value) {
            if (what == 0) {
                borrow = value;
            } else {
                order = value;
            }
        }

        /** If a link fails, the packets on it are lost; the others keep their order. */
        void putUp(int link, boolean isUp) {
            if (net.isLink(link)) {
                net.links[link].isUp = isUp;
            }
            int kept = 0;
            for (int i = 0; i < packetCount; i++) {
                if (!isUp && packets[i].link == link) {
                    lose(packets[i]);
                } else {
                    keepPacket(i, kept);
                    kept++;
                }
            }
            packetCount = kept;
        }

        private void keepPacket(int index, int place) {
            Packet row = packets[index];
            packets[index] = packets[place];
            packets[place] = row;
        }

        int packetsOn(int link) {
            int sum = 0;
            for (int i = 0; i < packetCount; i++) {
                if (packets[i].link == link) {
                    sum++;
                }
            }
            return sum;
        }

        int packetsOf(int circuit) {
            int sum = 0;
            for (int i = 0; i < packetCount; i++) {
                if (packets[i].circuit == circuit) {
                    sum++;
                }
            }
            return sum;
        }

        int movedCircuits() {
            int sum = 0;
            for (int i = 0; i < circuitCount; i++) {
                if (circuits[i].phase != AT_REST) {
                    sum++;
                }
            }
            return sum;
        }

        boolean isOfNewWay(int slot) {
            int circuit = labels.circuitOf(slot);
            return isCircuit(circuit) && circuits[circuit].fresh.indexOfSlot(slot) != NONE;
        }

        /** What all circuits but one reserve on a link. */
        int reservedOn(int link, int except) {
            int sum = 0;
            for (int i = 0; i < circuitCount; i++) {
                Circuit row = circuits[i];
                if (i != except && (row.old.usesLink(link) || row.fresh.usesLink(link))) {
                    sum += row.band;
                }
            }
            return sum;
        }

        int reservedOnAll() {
            int sum = 0;
            for (int i = 0; i < net.linkCount; i++) {
                sum += reservedOn(i, NONE);
            }
            return sum;
        }

        boolean hasRoom(int link, int band, int except) {
            return net.isUp(link) && reservedOn(link, except) + band <= net.links[link].capacity;
        }

        private boolean hasRoomAlong(Way way, int band, int except) {
            for (int i = 1; i < way.length; i++) {
                if (!hasRoom(way.linkAt(i), band, except)) {
                    return false;
                }
            }
            return true;
        }

        int openAlong(Way way, int band, int period) {
            if (circuitCount >= MAX_CIRCUITS) {
                return TOO_MANY_CIRCUITS;
            }
            if (way.length < 2) {
                return NO_WAY;
            }
            if (!hasRoomAlong(way, band, NONE)) {
                return NO_ROOM;
            }
            Circuit row = circuits[circuitCount];
            row.begin(band, period);
            row.old.copyNodes(way);
            if (!takeLabels(row.old, circuitCount)) {
                return NO_LABEL;
            }
            makeEntries(row.old);
            circuitCount++;
            return DONE;
        }

        void makeEntries(Way way) {
            for (int i = 1; i < way.length; i++) {
                labels.makeEntry(way.slotAt(i));
            }
        }

        /** All nodes of the way get their labels, or none does. */
        private boolean takeLabels(Way way, int circuit) {
            for (int i = 1; i < way.length; i++) {
                int slot = labels.take(net, way.nodeAt(i), circuit, borrow);
                if (slot == NONE) {
                    giveUpLabels(way);
                    return false;
                }
                way.putSlot(i, slot);
            }
            return true;
        }

        private void giveUpLabels(Way way) {
            for (int i = 1; i < way.length; i++) {
                labels.giveUp(way.slotAt(i));
                way.putSlot(i, NONE);
            }
        }

        int closeCircuit(int circuit) {
            if (!isCircuit(circuit)) {
                return NO_WAY;
            }
            Circuit row = circuits[circuit];
            if (row.phase != AT_REST) {
                return MOVED_ALREADY;
            }
            if (row.backlog > 0 || packetsOf(circuit) > 0) {
                return HAS_PACKETS;
            }
            giveUpLabels(row.old);
            labels.renumberBehind(circuit);
            for (int i = 0; i < packetCount; i++) {
                if (packets[i].circuit > circuit) {
                    packets[i].circuit--;
                }
            }
            circuitCount--;
            for (int i = circuit; i < circuitCount; i++) {
                circuits[i] = circuits[i + 1];
            }
            circuits[circuitCount] = row;
            return DONE;
        }

        int moveAlong(int circuit, Way way) {
            if (!isCircuit(circuit)) {
                return NO_WAY;
            }
            Circuit row = circuits[circuit];
            if (row.phase != AT_REST) {
                return MOVED_ALREADY;
            }
            if (!row.hasEndsOf(way)) {
                return NO_WAY;
            }
            if (row.old.isSameAs(way)) {
                return SAME_WAY;
            }
            if (!hasRoomAlong(way, row.band, circuit)) {
                return NO_ROOM;
            }
            row.fresh.copyNodes(way);
            if (!takeLabels(row.fresh, circuit)) {
                row.fresh.erase();
                return NO_LABEL;
            }
            row.phase = BUILDING;
            row.unmade = row.fresh.length - 1;
            return DONE;
        }

        int abortMove(int circuit) {
            if (!isCircuit(circuit) || circuits[circuit].phase != BUILDING) {
                return NOT_BUILDING;
            }
            Circuit row = circuits[circuit];
            giveUpLabels(row.fresh);
            row.fresh.erase();
            row.phase = AT_REST;
            row.unmade = 0;
            totals.aborted++;
            return DONE;
        }

        void addToBacklog(Circuit row, int many) {
            int wanted = row.backlog + many;
            row.backlog = Math.min(wanted, MAX_BACKLOG);
            totals.dropped += wanted - row.backlog;
        }

        int ticksUntilMoved(Circuit row) {
            int clearing = row.old.heldSlots();
            switch (row.phase) {
                case BUILDING: return row.unmade + 1 + net.delayOf(row.old) + clearing;
                case DRAINING: return row.drainLeft + clearing;
                case CLEARING: return clearing;
                default: return 0;
            }
        }

        void tick() {
            movePackets();
            for (int i = 0; i < circuitCount; i++) {
                moveCircuit(circuits[i]);
            }
            for (int i = 0; i < circuitCount; i++) {
                sendFrom(i);
            }
            time++;
        }

        private void movePackets() {
            int kept = 0;
            for (int i = 0; i < packetCount; i++) {
                Packet row = packets[i];
                row.ticksLeft--;
                if (row.ticksLeft > 0 || goesOn(row)) {
                    keepPacket(i, kept);
                    kept++;
                }
            }
            packetCount = kept;
        }

        /** A packet is at the node to which it went; answers whether it is on its way still. */
        private boolean goesOn(Packet row) {
            int circuit = labels.circuitOf(row.slot);
            if (!isCircuit(circuit) || !labels.hasMadeEntry(row.slot, row.target)) {
                lose(row);
                return false;
            }
            Way way = circuits[circuit].wayWithSlot(row.slot);
            int next = way.indexOfSlot(row.slot) + 1;
            if (next >= way.length) {
                deliver(row);
                return false;
            }
            row.putOnLinkTo(way, next, net);
            return isOnUpLink(row);
        }

        private boolean isOnUpLink(Packet row) {
            if (net.isUp(row.link)) {
                return true;
            }
            lose(row);
            return false;
        }

        private void lose(Packet row) {
            totals.lost++;
            if (isCircuit(row.circuit)) {
                circuits[row.circuit].lost++;
            }
        }

        private void deliver(Packet row) {
            totals.delivered++;
            if (!isCircuit(row.circuit)) {
                return;
            }
            Circuit circuit = circuits[row.circuit];
            circuit.delivered++;
            circuit.delaySum += time + 1 - row.sentAt;
            if (row.number < circuit.greatest) {
                circuit.late++;
                totals.late++;
            } else {
                circuit.greatest = row.number;
            }
        }

        private void moveCircuit(Circuit row) {
            switch (row.phase) {
                case BUILDING:
                    build(row);
                    break;
                case DRAINING:
                    row.drainLeft--;
                    if (row.drainLeft <= 0) {
                        row.phase = CLEARING;
                    }
                    break;
                case CLEARING:
                    clearOne(row);
                    break;
                default:
                    break;
            }
        }

        private void build(Circuit row) {
            if (row.unmade > 0) {
                labels.makeEntry(row.fresh.slotAt(row.unmade));
                row.unmade--;
                return;
            }
            row.phase = DRAINING;
            row.drainLeft = net.delayOf(row.old);
            if (order == 1) {
                row.held = Math.max(0, row.drainLeft - net.delayOf(row.fresh));
            }
        }

        private void clearOne(Circuit row) {
            int index = row.old.length - row.old.heldSlots();
            labels.giveUp(row.old.slotAt(index));
            row.old.putSlot(index, NONE);
            if (index >= row.old.length - 1) {
                row.takeNewWay();
                totals.completed++;
            }
        }

        private void sendFrom(int circuit) {
            Circuit row = circuits[circuit];
            if (row.period > 0 && (time + 1) % row.period == 0) {
                addToBacklog(row, 1);
            }
            if (row.held > 0) {
                row.held--;
            } else if (row.backlog > 0 && packetCount < MAX_PACKETS) {
                sendPacket(row, circuit);
            }
        }

        private void sendPacket(Circuit row, int circuit) {
            Packet packet = packets[packetCount];
            packet.circuit = circuit;
            packet.number = row.sent;
            packet.sentAt = time + 1;
            packet.putOnLinkTo(row.activeWay(), 1, net);
            row.backlog--;
            row.sent++;
            totals.sent++;
            if (isOnUpLink(packet)) {
                packetCount++;
            }
        }
    }

    /** Finds best ways; each search uses the same rows again. */
    private static final class Finder {
        final Way best = new Way();
        private final Way path = new Way();
        private final boolean[] isUsable = new boolean[MAX_LINKS];
        private final int[] cutOff = new int[MAX_LINKS];
        private int bestDelay = 0;
        private int avoided = NONE;

        /** Notes which links have room for a BAND, not counting what one circuit reserves. */
        void prepare(State state, int band, int except) {
            for (int i = 0; i < MAX_LINKS; i++) {
                isUsable[i] = state.hasRoom(i, band, except);
            }
        }

        boolean search(Net net, int from, int to, int without) {
            avoided = without;
            bestDelay = 0;
            best.erase();
            path.erase();
            path.append(from, NONE);
            visit(this, net, to, 0, 1);
            return best.length > 0;
        }

        /** Tries all ways on from the last node of the path; the depth is its number of nodes. */
        private static void visit(Finder finder, Net net, int to, int delay, int depth) {
            int node = finder.path.lastNode();
            if (node == to) {
                finder.keepIfBetter(delay);
                return;
            }
            if (depth >= MAX_WAY || finder.best.length > 0 && delay >= finder.bestDelay) {
                return;
            }
            for (int next = 0; next < net.nodeCount; next++) {
                int link = net.linkBetween(node, next);
                if (finder.isOpen(link) && !finder.path.hasNode(next)) {
                    finder.path.append(next, link);
                    visit(finder, net, to, delay + net.delayOn(link), depth + 1);
                    finder.path.dropLast();
                }
            }
        }

        private boolean isOpen(int link) {
            return link >= 0 && link < MAX_LINKS && link != avoided && isUsable[link];
        }

        /** Ways come in lexicographic order, so that of equally good ones the first one stays. */
        private void keepIfBetter(int delay) {
            boolean isBetter = best.length == 0 || delay < bestDelay
                    || delay == bestDelay && path.length < best.length;
            if (isBetter) {
                best.copyNodes(path);
                bestDelay = delay;
            }
        }

        int weakestLink(State state) {
            fillNumbers(cutOff, 0);
            for (int i = 0; i < state.circuitCount; i++) {
                countCuts(state, i);
            }
            int weakest = NONE;
            int most = 0;
            for (int i = 0; i < MAX_LINKS; i++) {
                if (cutOff[i] > most) {
                    weakest = i;
                    most = cutOff[i];
                }
            }
            return weakest;
        }

        private void countCuts(State state, int circuit) {
            Circuit row = state.circuits[circuit];
            Way active = row.activeWay();
            prepare(state, row.band, circuit);
            for (int i = 1; i < active.length; i++) {
                int link = active.linkAt(i);
                if (link >= 0 && link < MAX_LINKS
                        && !search(state.net, active.nodeAt(0), active.lastNode(), link)) {
                    cutOff[link]++;
                }
            }
        }
    }

    /** The text buffer, and the token at which a reader of it is. */
    private static final class Tokens {
        private static final int END = 0;
        private static final int WORD = 1;
        private static final int NUMBER = 2;
        private static final int SEMICOLON = 3;
        private static final int NO_TOKEN = 4;
        /** Greater than each number that is allowed somewhere. */
        private static final int HUGE = 1000000;

        private final byte[] text = new byte[MAX_TEXT];
        int textLength = 0;
        int kind = END;
        int start = 0;
        int value = 0;
        private int end = 0;

        boolean appendFour(int fourBytes) {
            if (textLength < 0 || textLength > MAX_TEXT - 4) {
                return false;
            }
            for (int shift = 24; shift >= 0; shift -= 8) {
                text[textLength] = (byte) (fourBytes >>> shift);
                textLength++;
            }
            return true;
        }

        void toFirst() {
            end = 0;
            toNext();
        }

        void toNext() {
            start = end;
            while (start < textLength && isBlank(text[start])) {
                start++;
            }
            end = start;
            if (start >= textLength) {
                kind = END;
            } else if (isLetter(text[start])) {
                kind = WORD;
                while (end < textLength && isLetter(text[end])) {
                    end++;
                }
            } else if (isDigit(text[start])) {
                kind = NUMBER;
                value = 0;
                while (end < textLength && isDigit(text[end])) {
                    value = Math.min(value * 10 + (text[end] - '0'), HUGE);
                    end++;
                }
            } else {
                kind = text[start] == ';' ? SEMICOLON : NO_TOKEN;
                end = start + 1;
            }
        }

        boolean isWord(String word) {
            if (kind != WORD || end - start != word.length()) {
                return false;
            }
            for (int i = 0; i < word.length(); i++) {
                if (text[start + i] != word.charAt(i)) {
                    return false;
                }
            }
            return true;
        }

        private static boolean isBlank(byte sign) {
            return sign == 32 || sign == 10;
        }

        private static boolean isLetter(byte sign) {
            return sign >= 'a' && sign <= 'z';
        }

        private static boolean isDigit(byte sign) {
            return sign >= '0' && sign <= '9';
        }
    }

    /** Reads the text as a setup, into a state; after an error the state is not to be used. */
    private static final class SetupReader {
        private static final int NOT_ALLOWED = 1;
        private static final int OUT_OF_RANGE = 2;
        private static final int TOO_MANY = 3;
        private static final int WRONG_NODE = 4;
        private static final int NOT_TO_HAVE = 5;

        final Tokens tokens = new Tokens();
        int code = 0;
        int position = NONE;

        boolean readSetup(State state) {
            code = 0;
            position = NONE;
            state.erase();
            tokens.toFirst();
            for (int i = 0; i < MAX_TEXT && code == 0 && tokens.kind != Tokens.END; i++) {
                if (tokens.isWord("node")) {
                    readNode(state);
                } else if (tokens.isWord("link")) {
                    readLink(state);
                } else if (tokens.isWord("circuit")) {
                    readCircuit(state);
                } else if (tokens.isWord("set")) {
                    readSetting(state);
                } else {
                    fail(NOT_ALLOWED);
                }
                passSemicolon();
            }
            return code == 0;
        }

        private void readNode(State state) {
            if (!passFirstWord(state.net.nodeCount, MAX_NODES)) {
                return;
            }
            int space = passNumber(1, MAX_SPACE);
            if (code == 0) {
                state.appendNode(space);
            }
        }

        private void readLink(State state) {
            if (!passFirstWord(state.net.linkCount, MAX_LINKS)) {
                return;
            }
            int greatest = state.net.nodeCount - 1;
            int one = passNumber(0, greatest);
            int other = checkedNumber(0, greatest);
            if (code == 0 && (one == other || state.net.linkBetween(one, other) != NONE)) {
                fail(WRONG_NODE);
            }
            passToken();
            int capacity = passNumber(1, MAX_CAPACITY);
            int delay = passNumber(1, MAX_DELAY);
            if (code == 0) {
                state.net.appendLink(one, other, capacity, delay);
            }
        }

        private void readSetting(State state) {
            passToken();
            int what = passNumber(0, 1);
            int value = passNumber(0, what == 0 ? MAX_BORROW : MAX_ORDER);
            if (code == 0) {
                state.putSetting(what, value);
            }
        }

        private void readCircuit(State state) {
            if (!passFirstWord(state.circuitCount, MAX_CIRCUITS)) {
                return;
            }
            int band = passNumber(1, MAX_BAND);
            int period = passNumber(0, MAX_PERIOD);
            int first = passNumber(0, state.net.nodeCount - 1);
            if (code != 0) {
                return;
            }
            Circuit row = state.circuits[state.circuitCount];
            row.begin(band, period);
            row.old.append(first, NONE);
            for (int i = 1; i <= MAX_WAY && !isWayRead(row.old); i++) {
                readWayNode(state, row);
            }
            if (code == 0) {
                state.makeEntries(row.old);
                state.circuitCount++;
            }
        }

        private boolean isWayRead(Way way) {
            return code != 0 || way.length >= 2 && tokens.kind == Tokens.SEMICOLON;
        }

        private void readWayNode(State state, Circuit row) {
            int node = checkedNumber(0, state.net.nodeCount - 1);
            if (code != 0) {
                return;
            }
            Way way = row.old;
            int link = state.net.linkBetween(way.lastNode(), node);
            int slot = NONE;
            if (way.length >= MAX_WAY) {
                fail(TOO_MANY);
            } else if (way.hasNode(node) || link == NONE) {
                fail(WRONG_NODE);
            } else if (!state.hasRoom(link, row.band, NONE)) {
                fail(NOT_TO_HAVE);
            } else {
                slot = state.labels.take(state.net, node, state.circuitCount, state.borrow);
            }
            if (slot == NONE) {
                fail(NOT_TO_HAVE);
            }
            way.append(node, link);
            way.putSlot(way.length - 1, slot);
            passToken();
        }

        private boolean passFirstWord(int present, int most) {
            if (present >= most) {
                fail(TOO_MANY);
            }
            passToken();
            return code == 0;
        }

        /** The number at which the reader is; NONE if it is wrong. */
        private int checkedNumber(int least, int greatest) {
            if (tokens.kind != Tokens.NUMBER) {
                fail(NOT_ALLOWED);
            } else if (isOutside(tokens.value, least, greatest)) {
                fail(OUT_OF_RANGE);
            }
            return code == 0 ? tokens.value : NONE;
        }

        private int passNumber(int least, int greatest) {
            int number = checkedNumber(least, greatest);
            passToken();
            return number;
        }

        private void passSemicolon() {
            if (tokens.kind != Tokens.SEMICOLON) {
                fail(NOT_ALLOWED);
            }
            passToken();
        }

        private void passToken() {
            if (code == 0) {
                tokens.toNext();
            }
        }

        /** Only the first error is told; the reader stays at its token. */
        private void fail(int errorCode) {
            if (code == 0) {
                code = errorCode;
                position = tokens.start;
            }
        }
    }
}
