import java.io.ByteArrayInputStream;
import java.io.ByteArrayOutputStream;
import java.io.IOException;
import java.io.ObjectInputStream;
import java.io.ObjectOutputStream;
import java.io.Serializable;
import java.util.ArrayList;
import java.util.List;

/**
 * The document once more, written another way: lists in place of rows, nothing kept that can be
 * derived, each prediction played on a copy. RandomRunsTest holds CircuitDesk against it.
 */
final class ReferenceDesk {
    static final class Line implements Serializable {
        private static final long serialVersionUID = 1;
        int one, other, capacity, delay;
        boolean up = true;

        boolean joins(int a, int b) {
            return one == a && other == b || one == b && other == a;
        }
    }

    static final class Hop implements Serializable {
        private static final long serialVersionUID = 1;
        int node;
        int space = -1, label = -1;
        boolean made;

        Hop(int node) {
            this.node = node;
        }
    }

    static final class Circ implements Serializable {
        private static final long serialVersionUID = 1;
        int band, period, phase, backlog, sent, delivered, lost, late, held, drain;
        long delays;
        List<Integer> arrived = new ArrayList<>();
        List<Hop> way = new ArrayList<>();
        List<Hop> fresh = new ArrayList<>();

        List<Hop> active() {
            return phase >= 2 ? fresh : way;
        }
    }

    static final class Pack implements Serializable {
        private static final long serialVersionUID = 1;
        Circ circuit;
        int number, sentAt, left, to, space, label;
        Line on;
    }

    static final class All implements Serializable {
        private static final long serialVersionUID = 1;
        List<Integer> spaces = new ArrayList<>();
        List<Line> lines = new ArrayList<>();
        List<Circ> circuits = new ArrayList<>();
        List<Pack> packs = new ArrayList<>();
        int[] settings = {1, 0};
        int time, sent, delivered, lost, dropped, late, completed, aborted;
    }

    static final class Wrong extends Exception {
        private static final long serialVersionUID = 1;
        final int code, position;

        Wrong(int code, int position) {
            this.code = code;
            this.position = position;
        }
    }

    All a = new All();
    StringBuilder text = new StringBuilder();
    int code = 0, position = -1;
    List<Integer> draftNodes = new ArrayList<>();
    byte[][] saved = new byte[2][];

    // ---- copies

    static byte[] frozen(All all) {
        try {
            ByteArrayOutputStream bytes = new ByteArrayOutputStream();
            ObjectOutputStream out = new ObjectOutputStream(bytes);
            out.writeObject(all);
            out.close();
            return bytes.toByteArray();
        } catch (IOException e) {
            throw new UnsupportedOperationException(e);
        }
    }

    static All thawed(byte[] bytes) {
        try {
            return (All) new ObjectInputStream(new ByteArrayInputStream(bytes)).readObject();
        } catch (IOException | ClassNotFoundException e) {
            throw new UnsupportedOperationException(e);
        }
    }

    private ReferenceDesk twin() {
        ReferenceDesk twin = new ReferenceDesk();
        twin.a = thawed(frozen(a));
        return twin;
    }

    // ---- small questions

    private static void bounds(boolean ok) {
        if (!ok) {
            throw new IndexOutOfBoundsException();
        }
    }

    private static void argument(boolean ok) {
        if (!ok) {
            throw new IllegalArgumentException();
        }
    }

    private static void state(boolean ok) {
        if (!ok) {
            throw new IllegalStateException();
        }
    }

    private boolean isNode(int n) {
        return 0 <= n && n < a.spaces.size();
    }

    private boolean isLine(int n) {
        return 0 <= n && n < a.lines.size();
    }

    private Circ circ(int n) {
        bounds(0 <= n && n < a.circuits.size());
        return a.circuits.get(n);
    }

    private Line line(int one, int other) {
        for (Line l : a.lines) {
            if (l.joins(one, other)) {
                return l;
            }
        }
        return null;
    }

    private List<Line> linesOf(List<Hop> way) {
        List<Line> lines = new ArrayList<>();
        for (int i = 1; i < way.size(); i++) {
            lines.add(line(way.get(i - 1).node, way.get(i).node));
        }
        return lines;
    }

    private int delay(List<Hop> way) {
        int sum = 0;
        for (Line l : linesOf(way)) {
            sum += l.delay;
        }
        return sum;
    }

    private int reserved(Line l, Circ except) {
        int sum = 0;
        for (Circ c : a.circuits) {
            if (c != except && (linesOf(c.way).contains(l) || linesOf(c.fresh).contains(l))) {
                sum += c.band;
            }
        }
        return sum;
    }

    private boolean room(Line l, int band, Circ except) {
        return l.up && reserved(l, except) + band <= l.capacity;
    }

    /** All hops with a label, those of a circuit that is just being made too. */
    private List<Hop> labelled(List<Hop> more) {
        List<Hop> all = new ArrayList<>();
        for (Circ c : a.circuits) {
            all.addAll(c.way);
            all.addAll(c.fresh);
        }
        all.addAll(more);
        all.removeIf(h -> h.space < 0);
        return all;
    }

    private List<Integer> free(int node, List<Hop> more) {
        List<Integer> free = new ArrayList<>();
        for (int i = 0; i < a.spaces.get(node); i++) {
            free.add(i);
        }
        for (Hop h : labelled(more)) {
            if (h.space == node) {
                free.remove((Integer) h.label);
            }
        }
        return free;
    }

    private int borrowed(int node, List<Hop> more) {
        int sum = 0;
        for (Hop h : labelled(more)) {
            if (h.node == node && h.space != node) {
                sum++;
            }
        }
        return sum;
    }

    private boolean label(Hop hop, List<Hop> more) {
        List<Integer> own = free(hop.node, more);
        if (!own.isEmpty()) {
            hop.space = hop.node;
            hop.label = own.get(0);
            return true;
        }
        if (borrowed(hop.node, more) >= a.settings[0]) {
            return false;
        }
        for (int wanted = 12; wanted >= 1; wanted--) {
            for (int n = 0; n < a.spaces.size(); n++) {
                if (line(n, hop.node) != null && free(n, more).size() == wanted) {
                    hop.space = n;
                    hop.label = free(n, more).get(wanted - 1);
                    return true;
                }
            }
        }
        return false;
    }

    /** The hops of a way with labels; null if a node gets none. */
    private List<Hop> labelledWay(List<Integer> nodes) {
        List<Hop> hops = new ArrayList<>();
        for (int n : nodes) {
            Hop hop = new Hop(n);
            if (!hops.isEmpty() && !label(hop, hops)) {
                return null;
            }
            hops.add(hop);
        }
        return hops;
    }

    private static List<Integer> nodes(List<Hop> way) {
        List<Integer> nodes = new ArrayList<>();
        for (Hop h : way) {
            nodes.add(h.node);
        }
        return nodes;
    }

    private List<Integer> best(int from, int to, int band, Circ except, Line without) {
        List<List<Integer>> ways = new ArrayList<>();
        List<List<Integer>> ends = new ArrayList<>();
        ways.add(List.of(from));
        for (int size = 2; size <= 6; size++) {
            List<List<Integer>> longer = new ArrayList<>();
            for (List<Integer> way : ways) {
                for (int n = 0; n < a.spaces.size(); n++) {
                    Line l = line(way.get(way.size() - 1), n);
                    if (l != null && l != without && !way.contains(n) && room(l, band, except)) {
                        List<Integer> more = new ArrayList<>(way);
                        more.add(n);
                        (n == to ? ends : longer).add(more);
                    }
                }
            }
            ways = longer;
        }
        ends.sort((x, y) -> {
            int byDelay = Integer.compare(delayOfNodes(x), delayOfNodes(y));
            int bySize = Integer.compare(x.size(), y.size());
            return byDelay != 0 ? byDelay : bySize != 0 ? bySize
                    : x.toString().compareTo(y.toString());
        });
        return ends.isEmpty() ? null : ends.get(0);
    }

    private int delayOfNodes(List<Integer> nodes) {
        int sum = 0;
        for (int i = 1; i < nodes.size(); i++) {
            sum += line(nodes.get(i - 1), nodes.get(i)).delay;
        }
        return sum;
    }

    // ---- setup texts

    int appendText(int four) {
        state(text.length() + 4 <= 800);
        for (int i = 3; i >= 0; i--) {
            text.append((char) (four >> 8 * i & 255));
        }
        return text.length();
    }

    int truncateText(int length) {
        argument(0 <= length && length <= text.length());
        text.setLength(length);
        return length;
    }

    int load() {
        ReferenceDesk other = new ReferenceDesk();
        String read = text.toString();
        text.setLength(0);
        code = 0;
        position = -1;
        try {
            other.parse(read);
        } catch (Wrong w) {
            code = w.code;
            position = w.position;
            return -1;
        }
        a = other.a;
        draftNodes.clear();
        return a.circuits.size();
    }

    private record Token(String sign, int at) {
    }

    private static List<Token> tokens(String read) {
        List<Token> tokens = new ArrayList<>();
        java.util.regex.Matcher m =
                java.util.regex.Pattern.compile("[a-z]+|[0-9]+|[^ \n]").matcher(read);
        while (m.find()) {
            tokens.add(new Token(m.group(), m.start()));
        }
        tokens.add(new Token("", read.length()));
        return tokens;
    }

    private List<Token> toks;
    private int tok;

    private int number(int least, int most, boolean isTaken) throws Wrong {
        Token t = toks.get(tok);
        if (!t.sign.matches("[0-9]+")) {
            throw new Wrong(1, t.at);
        }
        java.math.BigInteger big = new java.math.BigInteger(t.sign);
        if (big.compareTo(java.math.BigInteger.valueOf(least)) < 0
                || big.compareTo(java.math.BigInteger.valueOf(most)) > 0) {
            throw new Wrong(2, t.at);
        }
        tok += isTaken ? 1 : 0;
        return big.intValue();
    }

    private void parse(String read) throws Wrong {
        toks = tokens(read);
        tok = 0;
        while (!toks.get(tok).sign.isEmpty()) {
            Token first = toks.get(tok++);
            boolean isFull = false;
            switch (first.sign) {
                case "node": isFull = a.spaces.size() == 10; break;
                case "link": isFull = a.lines.size() == 16; break;
                case "circuit": isFull = a.circuits.size() == 8; break;
                case "set": break;
                default: throw new Wrong(1, first.at);
            }
            if (isFull) {
                throw new Wrong(3, first.at);
            }
            parseRest(first.sign);
            if (!toks.get(tok).sign.equals(";")) {
                throw new Wrong(1, toks.get(tok).at);
            }
            tok++;
        }
    }

    private void parseRest(String first) throws Wrong {
        if (first.equals("node")) {
            a.spaces.add(number(1, 12, true));
        } else if (first.equals("set")) {
            int what = number(0, 1, true);
            a.settings[what] = number(0, what == 0 ? 4 : 1, true);
        } else if (first.equals("link")) {
            Line l = new Line();
            l.one = number(0, a.spaces.size() - 1, true);
            l.other = number(0, a.spaces.size() - 1, false);
            if (l.one == l.other || line(l.one, l.other) != null) {
                throw new Wrong(4, toks.get(tok).at);
            }
            tok++;
            l.capacity = number(1, 99, true);
            l.delay = number(1, 9, true);
            a.lines.add(l);
        } else {
            parseCircuit();
        }
    }

    private void parseCircuit() throws Wrong {
        Circ c = new Circ();
        c.band = number(1, 20, true);
        c.period = number(0, 9, true);
        while (c.way.size() < 2 || !toks.get(tok).sign.equals(";")) {
            int n = number(0, a.spaces.size() - 1, false);
            int at = toks.get(tok++).at;
            Hop hop = new Hop(n);
            if (c.way.size() == 6) {
                throw new Wrong(3, at);
            }
            if (!c.way.isEmpty()) {
                Line l = line(c.way.get(c.way.size() - 1).node, n);
                if (nodes(c.way).contains(n) || l == null) {
                    throw new Wrong(4, at);
                }
                if (!room(l, c.band, null) || !label(hop, c.way)) {
                    throw new Wrong(5, at);
                }
                hop.made = true;
            }
            c.way.add(hop);
        }
        a.circuits.add(c);
    }

    int errorCode() {
        return code;
    }

    int errorPosition() {
        return position;
    }

    // ---- nodes and links

    int addNode(int space) {
        argument(1 <= space && space <= 12);
        state(a.spaces.size() < 10);
        a.spaces.add(space);
        return a.spaces.size() - 1;
    }

    int addLink(int one, int other, int capacity, int delay) {
        bounds(isNode(one) && isNode(other));
        argument(one != other && 1 <= capacity && capacity <= 99 && 1 <= delay && delay <= 9);
        state(line(one, other) == null && a.lines.size() < 16);
        Line l = new Line();
        l.one = one;
        l.other = other;
        l.capacity = capacity;
        l.delay = delay;
        a.lines.add(l);
        return a.lines.size() - 1;
    }

    boolean setUp(int link, boolean isUp) {
        bounds(isLine(link));
        Line l = a.lines.get(link);
        boolean was = l.up;
        l.up = isUp;
        if (!isUp) {
            for (Pack p : a.packs) {
                if (p.on == l) {
                    lose(p);
                }
            }
            a.packs.removeIf(p -> p.on == l);
        }
        return was;
    }

    private void lose(Pack p) {
        p.circuit.lost++;
        a.lost++;
    }

    int set(int what, int value) {
        argument(what == 0 && 0 <= value && value <= 4 || what == 1 && 0 <= value && value <= 1);
        int was = a.settings[what];
        a.settings[what] = value;
        return was;
    }

    int count(int what) {
        argument(0 <= what && what <= 16);
        int lent = 0, moved = 0;
        for (Hop h : labelled(List.of())) {
            lent += h.space != h.node ? 1 : 0;
        }
        for (Circ c : a.circuits) {
            moved += c.phase > 0 ? 1 : 0;
        }
        int[] all = {a.settings[0], a.settings[1], a.spaces.size(), a.lines.size(),
            a.circuits.size(), a.time, a.packs.size(), a.sent, a.delivered, a.lost, a.dropped,
            a.late, lent, moved, a.completed, a.aborted, draftNodes.size()};
        return all[what];
    }

    int node(int node, int what) {
        bounds(isNode(node));
        argument(0 <= what && what <= 6);
        int own = 0, lent = 0, borrowed = 0, made = 0, lines = 0;
        for (Hop h : labelled(List.of())) {
            own += h.space == node && h.node == node ? 1 : 0;
            lent += h.space == node && h.node != node ? 1 : 0;
            borrowed += h.space != node && h.node == node ? 1 : 0;
            made += h.node == node && h.made ? 1 : 0;
        }
        for (Line l : a.lines) {
            lines += l.one == node || l.other == node ? 1 : 0;
        }
        int[] all = {a.spaces.get(node), free(node, List.of()).size(), own, lent, borrowed, made,
            lines};
        return all[what];
    }

    int label(int node, int label, int what) {
        bounds(isNode(node) && 0 <= label && label < a.spaces.get(node));
        argument(0 <= what && what <= 3);
        for (int c = 0; c < a.circuits.size(); c++) {
            for (int isNew = 0; isNew <= 1; isNew++) {
                for (Hop h : isNew == 1 ? a.circuits.get(c).fresh : a.circuits.get(c).way) {
                    if (h.space == node && h.label == label) {
                        return new int[] {h.node, c, isNew, h.made ? 1 : 0}[what];
                    }
                }
            }
        }
        return -1;
    }

    int link(int link, int what) {
        bounds(isLine(link));
        argument(0 <= what && what <= 6);
        Line l = a.lines.get(link);
        int packs = 0;
        for (Pack p : a.packs) {
            packs += p.on == l ? 1 : 0;
        }
        return new int[] {l.one, l.other, l.capacity, l.delay, l.up ? 1 : 0, reserved(l, null),
            packs}[what];
    }

    // ---- drafts

    int draft(int node) {
        bounds(isNode(node));
        int size = draftNodes.size();
        state(size < 6 && !draftNodes.contains(node)
                && (size == 0 || line(draftNodes.get(size - 1), node) != null));
        draftNodes.add(node);
        return size + 1;
    }

    int clearDraft() {
        int size = draftNodes.size();
        draftNodes.clear();
        return size;
    }

    int draftBest(int from, int to, int band) {
        bounds(isNode(from) && isNode(to));
        argument(from != to && 1 <= band && band <= 20);
        List<Integer> best = best(from, to, band, null, null);
        if (best == null) {
            return -1;
        }
        draftNodes = new ArrayList<>(best);
        return best.size();
    }

    int draftNode(int index) {
        bounds(index >= 0);
        return index < draftNodes.size() ? draftNodes.get(index) : -1;
    }

    // ---- acts

    int open(int band, int period) {
        argument(1 <= band && band <= 20 && 0 <= period && period <= 9);
        if (a.circuits.size() == 8) {
            return 1;
        }
        if (draftNodes.size() < 2) {
            return 3;
        }
        for (int i = 1; i < draftNodes.size(); i++) {
            if (!room(line(draftNodes.get(i - 1), draftNodes.get(i)), band, null)) {
                return 5;
            }
        }
        Circ c = new Circ();
        c.band = band;
        c.period = period;
        c.way = labelledWay(draftNodes);
        if (c.way == null) {
            return 6;
        }
        for (Hop h : c.way) {
            h.made = h.space >= 0;
        }
        a.circuits.add(c);
        draftNodes.clear();
        return 0;
    }

    int close(int circuit) {
        Circ c = circ(circuit);
        if (c.phase > 0) {
            return 2;
        }
        for (Pack p : a.packs) {
            if (p.circuit == c) {
                return 8;
            }
        }
        if (c.backlog > 0) {
            return 8;
        }
        a.circuits.remove(c);
        return 0;
    }

    private int begin(Circ c, List<Integer> nodes) {
        if (c.phase > 0) {
            return 2;
        }
        List<Integer> old = nodes(c.way);
        if (nodes == null || nodes.size() < 2 || !nodes.get(0).equals(old.get(0))
                || !nodes.get(nodes.size() - 1).equals(old.get(old.size() - 1))) {
            return 3;
        }
        if (nodes.equals(old)) {
            return 4;
        }
        for (int i = 1; i < nodes.size(); i++) {
            if (!room(line(nodes.get(i - 1), nodes.get(i)), c.band, c)) {
                return 5;
            }
        }
        List<Hop> hops = labelledWay(nodes);
        if (hops == null) {
            return 6;
        }
        c.fresh = hops;
        c.phase = 1;
        return 0;
    }

    int move(int circuit) {
        int reason = begin(circ(circuit), draftNodes);
        if (reason == 0) {
            draftNodes = new ArrayList<>();
        }
        return reason;
    }

    int moveBest(int circuit, int link) {
        Circ c = circ(circuit);
        bounds(link == -1 || isLine(link));
        Line without = link == -1 ? null : a.lines.get(link);
        return begin(c, best(c.way.get(0).node, c.way.get(c.way.size() - 1).node, c.band, c,
                without));
    }

    int abort(int circuit) {
        Circ c = circ(circuit);
        if (c.phase != 1) {
            return 7;
        }
        c.fresh = new ArrayList<>();
        c.phase = 0;
        a.aborted++;
        return 0;
    }

    int offer(int circuit, int many) {
        Circ c = circ(circuit);
        argument(1 <= many && many <= 9);
        for (int i = 0; i < many; i++) {
            grow(c);
        }
        return c.backlog;
    }

    private void grow(Circ c) {
        if (c.backlog < 9) {
            c.backlog++;
        } else {
            a.dropped++;
        }
    }

    // ---- time

    int run(int ticks) {
        argument(1 <= ticks && ticks <= 200);
        int before = a.delivered;
        for (int i = 0; i < ticks; i++) {
            tick();
        }
        return a.delivered - before;
    }

    private void tick() {
        List<Pack> stay = new ArrayList<>();
        for (Pack p : a.packs) {
            p.left--;
            if (p.left > 0 || arrive(p)) {
                stay.add(p);
            }
        }
        a.packs = stay;
        for (Circ c : a.circuits) {
            stepMove(c);
        }
        for (Circ c : a.circuits) {
            if (c.period > 0 && (a.time + 1) % c.period == 0) {
                grow(c);
            }
            if (c.held > 0) {
                c.held--;
            } else if (c.backlog > 0 && a.packs.size() < 60) {
                send(c);
            }
        }
        a.time++;
    }

    private boolean arrive(Pack p) {
        for (Circ c : a.circuits) {
            for (List<Hop> way : List.of(c.way, c.fresh)) {
                for (int i = 1; i < way.size(); i++) {
                    Hop h = way.get(i);
                    if (h.node == p.to && h.space == p.space && h.label == p.label && h.made) {
                        return i + 1 == way.size() ? deliver(p) : pass(p, h.node, way.get(i + 1));
                    }
                }
            }
        }
        lose(p);
        return false;
    }

    private boolean pass(Pack p, int from, Hop next) {
        p.on = line(from, next.node);
        p.to = next.node;
        p.space = next.space;
        p.label = next.label;
        p.left = p.on.delay;
        if (!p.on.up) {
            lose(p);
        }
        return p.on.up;
    }

    private boolean deliver(Pack p) {
        Circ c = p.circuit;
        a.delivered++;
        c.delivered++;
        c.delays += a.time + 1 - p.sentAt;
        for (int other : c.arrived) {
            if (other > p.number) {
                c.late++;
                a.late++;
                break;
            }
        }
        c.arrived.add(p.number);
        return false;
    }

    private void send(Circ c) {
        Pack p = new Pack();
        p.circuit = c;
        p.number = c.sent++;
        p.sentAt = a.time + 1;
        c.backlog--;
        a.sent++;
        if (pass(p, c.active().get(0).node, c.active().get(1))) {
            a.packs.add(p);
        }
    }

    private void stepMove(Circ c) {
        if (c.phase == 1) {
            for (int i = c.fresh.size() - 1; i >= 1; i--) {
                if (!c.fresh.get(i).made) {
                    c.fresh.get(i).made = true;
                    return;
                }
            }
            c.phase = 2;
            c.drain = delay(c.way);
            if (a.settings[1] == 1 && delay(c.way) > delay(c.fresh)) {
                c.held = delay(c.way) - delay(c.fresh);
            }
        } else if (c.phase == 2) {
            c.drain--;
            c.phase = c.drain == 0 ? 3 : 2;
        } else if (c.phase == 3) {
            for (int i = 1; i < c.way.size(); i++) {
                Hop h = c.way.get(i);
                if (h.space >= 0) {
                    h.space = -1;
                    h.label = -1;
                    if (i == c.way.size() - 1) {
                        c.way = c.fresh;
                        c.fresh = new ArrayList<>();
                        c.phase = 0;
                        a.completed++;
                    }
                    return;
                }
            }
        }
    }

    // ---- circuits and packets

    int circuit(int circuit, int what) {
        Circ c = circ(circuit);
        argument(0 <= what && what <= 14);
        int packs = 0, unmade = 0;
        for (Pack p : a.packs) {
            packs += p.circuit == c ? 1 : 0;
        }
        for (Hop h : c.fresh) {
            unmade += h.space >= 0 && !h.made ? 1 : 0;
        }
        return new int[] {c.way.get(0).node, c.way.get(c.way.size() - 1).node, c.band, c.period,
            c.phase, delay(c.active()), c.backlog, c.sent, c.delivered, c.lost, c.late, c.held,
            c.phase == 2 ? c.drain : 0, packs, c.phase == 1 ? unmade : 0}[what];
    }

    int way(int circuit, boolean isNew, int index, int what) {
        Circ c = circ(circuit);
        bounds(index >= 0);
        argument(0 <= what && what <= 2);
        List<Hop> way = isNew ? c.fresh : c.way;
        if (index >= way.size()) {
            return -1;
        }
        Hop h = way.get(index);
        return new int[] {h.node, h.space, h.label}[what];
    }

    int packet(int packet, int what) {
        bounds(0 <= packet && packet < a.packs.size());
        argument(0 <= what && what <= 6);
        Pack p = a.packs.get(packet);
        return new int[] {a.circuits.indexOf(p.circuit), p.number, a.lines.indexOf(p.on), p.to,
            p.space, p.label, p.left}[what];
    }

    double meanDelay(int circuit) {
        Circ c = circ(circuit);
        return c.delivered == 0 ? -1.0 : (double) c.delays / (double) c.delivered;
    }

    float usage() {
        int sum = 0, all = 0;
        for (Line l : a.lines) {
            sum += reserved(l, null);
            all += l.capacity;
        }
        return all == 0 ? 0 : (float) sum / (float) all;
    }

    // ---- predictions

    int canMove(int circuit, int link) {
        return twin().moveBest(circuit, link);
    }

    int movedIn(int circuit) {
        circ(circuit);
        ReferenceDesk twin = twin();
        int ticks = 0;
        while (twin.circ(circuit).phase > 0) {
            twin.tick();
            ticks++;
        }
        return ticks;
    }

    int ahead(int ticks, int what) {
        argument(1 <= ticks && ticks <= 200 && 0 <= what && what <= 3);
        int of = new int[] {8, 9, 11, 10}[what];
        ReferenceDesk twin = twin();
        twin.run(ticks);
        return twin.count(of) - count(of);
    }

    int weakLink() {
        int weakest = -1, most = 0;
        for (int i = 0; i < a.lines.size(); i++) {
            Line l = a.lines.get(i);
            int cut = 0;
            for (Circ c : a.circuits) {
                int last = c.way.get(c.way.size() - 1).node;
                if (linesOf(c.active()).contains(l)
                        && best(c.way.get(0).node, last, c.band, c, l) == null) {
                    cut++;
                }
            }
            if (cut > most) {
                most = cut;
                weakest = i;
            }
        }
        return weakest;
    }

    // ---- saved states

    void save(int slot) {
        argument(slot == 0 || slot == 1);
        saved[slot] = frozen(a);
    }

    void restore(int slot) {
        argument(slot == 0 || slot == 1);
        state(saved[slot] != null);
        a = thawed(saved[slot]);
        draftNodes.clear();
    }
}
