import java.io.IOException;

/** SETUP TEXTS and the promises 2 to 6, sentence by sentence. */
public final class EdgeTextTest {
    private static final int SPACES = 0x20202020;
    private static final String TEN_NODES = Nets.times(10, "node 1;");
    private static final String TWO_NODES = "node 1;node 1;";
    private static final String PAIR = TWO_NODES + "link 0 1 9 1;";

    public static void main(String[] args) throws IOException {
        Edges.run(EdgeTextTest.class, args);
    }

    private static CircuitDesk good(Check check, String text) {
        CircuitDesk desk = new CircuitDesk();
        check.dueTrue("load of '" + text + "'", Check.load(desk, text) >= 0);
        check.due("code of '" + text + "'", desk.errorCode(), 0);
        check.due("position in '" + text + "'", desk.errorPosition(), -1);
        return desk;
    }

    private static void error(Check check, String text, int code, int position) {
        CircuitDesk desk = new CircuitDesk();
        check.due("load of '" + text + "'", Check.load(desk, text), -1);
        check.due("code of '" + text + "'", desk.errorCode(), code);
        check.due("position in '" + text + "'", desk.errorPosition(), position);
    }

    /** An error at the last token of a text, which is behind the last space or the last ;. */
    private static void errorAtLast(Check check, String text, int code) {
        int space = text.lastIndexOf(' ');
        int semicolon = text.lastIndexOf(';', text.length() - 2);
        error(check, text, code, Math.max(space, semicolon) + 1);
    }

    /** A desk with a text of this length, of spaces. */
    private static CircuitDesk withText(int length) {
        CircuitDesk desk = new CircuitDesk();
        for (int bytes = 0; bytes < length; bytes += 4) {
            desk.appendText(SPACES);
        }
        desk.truncateText(length);
        return desk;
    }

    // ---- Promise 2

    @Sentence(in = "Promise 2", says = {"Appends four bytes to the text buffer, the highest byte of"
            + " the parameter first.", "fourBytes: the bytes"})
    static void promise02_theHighestByteFirst(Check check) {
        CircuitDesk desk = new CircuitDesk();
        desk.appendText(0x6e6f6465); // node
        desk.appendText(0x2031323b); // " 12;"
        check.due("load", desk.load(), 0);
        check.due("SPACE", desk.node(0, 0), 12);
        int[] wrongAt = {0x80202020, 0x20ff2020, 0x20207f20, 0x20202081};
        for (int at = 0; at <= 3; at++) {
            CircuitDesk wrong = new CircuitDesk();
            wrong.appendText(wrongAt[at]);
            check.due("load with a wrong byte", wrong.load(), -1);
            check.due("the place of the wrong byte", wrong.errorPosition(), at);
        }
        CircuitDesk least = new CircuitDesk();
        least.appendText(SPACES);
        check.due("the least int", least.appendText(Integer.MIN_VALUE), 8);
        check.due("load", least.load(), -1);
        check.due("the place of its highest byte", least.errorPosition(), 4);
        CircuitDesk zeros = new CircuitDesk();
        check.due("zeros are four bytes", zeros.appendText(0), 4);
        check.due("load", zeros.load(), -1);
    }

    @Sentence(in = "Promise 2", says = "Returns the length of the text in bytes.")
    static void promise02_returnsTheLengthInBytes(Check check) {
        CircuitDesk desk = new CircuitDesk();
        check.due("the first four", desk.appendText(SPACES), 4);
        check.due("the next four", desk.appendText(SPACES), 8);
        desk.truncateText(5);
        check.due("behind 5", desk.appendText(SPACES), 9);
        desk.truncateText(0);
        check.due("behind 0", desk.appendText(SPACES), 4);
        check.due("up to the greatest length", withText(796).appendText(SPACES), 800);
    }

    @Sentence(in = "Promise 2",
            says = "Throws IllegalStateException if the text would be longer than 800 bytes")
    static void promise02_throwsAbove800Bytes(Check check) {
        for (int length = 793; length <= 796; length++) {
            CircuitDesk desk = withText(length);
            check.due("appendText behind " + length, desk.appendText(SPACES), length + 4);
        }
        for (int length = 797; length <= 800; length++) {
            CircuitDesk desk = withText(length);
            check.dueIllegalState("appendText behind " + length, () -> desk.appendText(SPACES));
            check.due("the length stays", desk.truncateText(length), length);
        }
    }

    // ---- Promise 3

    @Sentence(in = "Promise 3", says = "Cuts the text to its first bytes.")
    static void promise03_theFirstBytesStay(Check check) {
        CircuitDesk desk = new CircuitDesk();
        Check.put(desk, "node 7;!node 8;");
        desk.truncateText(7);
        desk.appendText(SPACES);
        check.due("load of what is left", desk.load(), 0);
        check.due("nodes", desk.count(2), 1);
        check.due("SPACE", desk.node(0, 0), 7);
        Check.put(desk, "node 7;!");
        check.due("load of one byte more", desk.load(), -1);
        Check.put(desk, "!");
        desk.truncateText(0);
        check.due("load of no byte", desk.load(), 0);
    }

    @Sentence(in = "Promise 3", says = "length: the new length, 0 to the present length")
    static void promise03_length0ToThePresentOne(Check check) {
        for (int length = 0; length <= 800; length += 400) {
            CircuitDesk desk = withText(length);
            int more = length + 1;
            check.dueIllegalArgument("truncateText(-1) of " + length, () -> desk.truncateText(-1));
            check.dueIllegalArgument("1 more than " + length, () -> desk.truncateText(more));
            check.due("as many as " + length, desk.truncateText(length), length);
            check.due("0 of " + length, desk.truncateText(0), 0);
            check.dueIllegalArgument("1 of none", () -> desk.truncateText(1));
        }
    }

    @Sentence(in = "Promise 3", says = "Returns the new length.")
    static void promise03_returnsTheNewLength(Check check) {
        CircuitDesk desk = withText(8);
        for (int length = 8; length >= 0; length--) {
            check.due("truncateText(" + length + ")", desk.truncateText(length), length);
        }
    }

    @Sentence(in = "Promise 3", says = "Throws IllegalArgumentException if length is out of range")
    static void promise03_throwsIfLengthIsOutOfRange(Check check) {
        CircuitDesk desk = withText(6);
        for (int length : new int[] {Integer.MIN_VALUE, -1, 7, 8, 801, Integer.MAX_VALUE}) {
            check.dueIllegalArgument("truncateText(" + length + ") of 6",
                    () -> desk.truncateText(length));
        }
        check.due("the text stays", desk.appendText(SPACES), 10);
    }

    // ---- Promise 4

    @Sentence(in = "Promise 4", says = "Reads the text as a setup, which replaces everything except"
            + " saved states")
    static void promise04_replacesEverythingExceptSavedStates(Check check) {
        CircuitDesk desk = Check.desk(Nets.triangle(4, 9, 1, 1, 1) + "circuit 1 1 0 1 2;"
                + "circuit 1 1 0 2;set 0 3;set 1 1;");
        desk.run(7);
        desk.save(0);
        desk.moveBest(0, 0);
        desk.abort(0);
        desk.moveBest(0, 0);
        desk.run(9);
        desk.offer(0, 9);
        desk.offer(0, 9);
        desk.setUp(0, false);
        Check.draft(desk, 0, 1);
        check.due("load", Check.load(desk, "node 2;"), 0);
        int[] due = {1, 0, 1, 0, 0, 0, 0, 0, 0, 0, 0, 0, 0, 0, 0, 0, 0};
        for (int what = 0; what <= 16; what++) {
            check.due("count(" + what + ")", desk.count(what), due[what]);
        }
        check.due("SPACE", desk.node(0, 0), 2);
        check.due("free labels", desk.node(0, 1), 2);
        check.due("links", desk.node(0, 6), 0);
        check.dueIllegalState("restore(1) without one", () -> desk.restore(1));
        desk.restore(0);
        check.due("nodes of the saved state", desk.count(2), 3);
        check.due("time of the saved state", desk.count(5), 7);
    }

    @Sentence(in = "Promise 4", says = "which replaces everything")
    static void promise04_nothingIsLeftWhateverWasThere(Check check) {
        String setup = Nets.triangle(3, 20, 4, 2, 1) + "circuit 4 0 0 1 2;circuit 5 0 1 2;";
        for (int ticks = 0; ticks <= 9; ticks++) {
            CircuitDesk desk = Nets.rich(ticks);
            for (int what = 7; what <= 15; what++) {
                check.dueTrue("count(" + what + ") is 0 before", desk.count(what) > 0);
            }
            desk.ahead(1, 0);
            check.due("load", Check.load(desk, setup), 2);
            CircuitDesk fresh = Check.desk(setup);
            check.same("something is left", View.of(desk), View.of(fresh));
            CircuitDesk later = Nets.rich(ticks);
            later.ahead(1, 0);
            Check.load(later, setup);
            CircuitDesk freshLater = Check.desk(setup);
            check.same("something is left later", playedOn(later), playedOn(freshLater));
        }
    }

    private static String playedOn(CircuitDesk desk) {
        desk.offer(0, 5);
        Nets.move(desk, 0, 0, 2);
        desk.run(6);
        return View.of(desk);
    }

    @Sentence(in = "Promise 4", says = "which replaces everything")
    static void promise04_anEmptySetupReplacesEverything(Check check) {
        CircuitDesk desk = Nets.rich(2);
        desk.ahead(1, 0);
        check.due("load of an empty text", Check.load(desk, ""), 0);
        check.same("something is left", View.of(desk), View.of(new CircuitDesk()));
        check.due("a new node", desk.addNode(4), 0);
        check.due("its free labels", desk.node(0, 1), 4);
        check.due("its links", desk.node(0, 6), 0);
        check.due("a second one", desk.addNode(1), 1);
        check.due("a link between both", desk.addLink(0, 1, 9, 1), 0);
        check.due("what is reserved on it", desk.link(0, 5), 0);
    }

    @Sentence(in = "Promise 4", says = "the draft is empty then.")
    static void promise04_theDraftIsEmptyThen(Check check) {
        for (int nodes = 0; nodes <= 6; nodes += 3) {
            CircuitDesk desk = Check.desk(Nets.row(6, 1, 9, 1));
            for (int n = 0; n < nodes; n++) {
                desk.draft(n);
            }
            check.due("load", Check.load(desk, Nets.row(6, 1, 9, 1)), 0);
            check.due("nodes of the draft", desk.count(16), 0);
            check.due("its first node", desk.draftNode(0), -1);
            check.due("a new first node", desk.draft(5), 1);
        }
    }

    @Sentence(in = "Promise 4",
            says = "The text buffer is empty afterwards, also if there is an error.")
    static void promise04_theTextIsEmptyAfterwards(Check check) {
        for (String text : new String[] {"", "node 1;", "node 13;", "!"}) {
            CircuitDesk desk = new CircuitDesk();
            Check.load(desk, text);
            check.dueIllegalArgument("1 byte is left of '" + text + "'",
                    () -> desk.truncateText(1));
            check.due("appendText behind '" + text + "'", desk.appendText(SPACES), 4);
        }
        CircuitDesk full = withText(800);
        check.due("load of 800 bytes", full.load(), 0);
        check.due("load of none", full.load(), 0);
        check.due("appendText behind 800 bytes", full.appendText(SPACES), 4);
    }

    @Sentence(in = "Promise 4", says = "Returns the number of circuits; NONE if the text has an"
            + " error (then everything else stays).")
    static void promise04_returnsTheNumberOfCircuits(Check check) {
        CircuitDesk desk = new CircuitDesk();
        String text = Nets.pair(12, 99, 1);
        check.due("load with no circuit", Check.load(desk, text), 0);
        check.due("load with 1", Check.load(desk, text + "circuit 1 0 0 1;"), 1);
        String eight = text + Nets.times(8, "circuit 1 0 0 1;");
        check.due("load with 8", Check.load(desk, eight), 8);
        check.due("load with an error", Check.load(desk, eight + "x"), -1);
        check.due("circuits", desk.count(4), 8);
    }

    @Sentence(in = "Promise 4", says = "(then everything else stays)")
    static void promise04_afterAnErrorEverythingElseStays(Check check) {
        String[] wrong = {"x", "node 5;node 13;", "node 5", PAIR + "circuit 5 0 0 1;circuit 5 0",
            PAIR + "set 0 4;set 1 1;circuit 5 0 0 1;circuit 5 0 0 1;"};
        for (String text : wrong) {
            CircuitDesk desk = playing();
            CircuitDesk twin = playing();
            check.due("load of '" + text + "'", Check.load(desk, text), -1);
            check.due("load of '?'", Check.load(twin, "?"), -1);
            // a good text makes the latest errors alike, but only behind the view
            String seen = View.of(desk);
            String due = View.of(twin);
            check.same("something changes", seen.substring(0, seen.indexOf("\nerror")),
                    due.substring(0, due.indexOf("\nerror")));
            desk.run(20);
            twin.run(20);
            check.due("delivered later", desk.count(8), twin.count(8));
        }
        CircuitDesk plain = playing();
        CircuitDesk failed = playing();
        Check.load(failed, "?");
        check.same("something changes", View.of(failed).split("\nerror")[0],
                View.of(plain).split("\nerror")[0]);
    }

    /** A desk with packets on their ways, a move and a draft. */
    private static CircuitDesk playing() {
        CircuitDesk desk = Check.desk(Nets.triangle(4, 9, 2, 2, 3) + "circuit 2 1 0 1 2;"
                + "circuit 1 2 2 0;set 0 2;");
        desk.run(5);
        desk.moveBest(0, -1);
        desk.run(2);
        Check.draft(desk, 1, 0);
        return desk;
    }

    // ---- Promises 5 and 6

    @Sentence(in = "Promise 5", says = "Returns the error code of the latest load(); 0 if its text"
            + " had no error, or if there was no such call.")
    static void promise05_theCodeOfTheLatestLoad(Check check) {
        CircuitDesk desk = new CircuitDesk();
        check.due("no such call", desk.errorCode(), 0);
        String[] texts = {"node 0;", "node", "", TEN_NODES + "node", "node 1;"};
        int[] due = {2, 1, 0, 3, 0};
        for (int i = 0; i < texts.length; i++) {
            Check.load(desk, texts[i]);
            check.due("code of '" + texts[i] + "'", desk.errorCode(), due[i]);
            check.due("asked again", desk.errorCode(), due[i]);
        }
    }

    @Sentence(in = "Promise 6", says = "Returns the error position of the latest load(); NONE if"
            + " its text had no error, or if there was no such call.")
    static void promise06_thePositionOfTheLatestLoad(Check check) {
        CircuitDesk desk = new CircuitDesk();
        check.due("no such call", desk.errorPosition(), -1);
        String[] texts = {"node 0;", "!", "", TEN_NODES + "node", "node 1;"};
        int[] due = {5, 0, -1, 70, -1};
        for (int i = 0; i < texts.length; i++) {
            Check.load(desk, texts[i]);
            check.due("position in '" + texts[i] + "'", desk.errorPosition(), due[i]);
            check.due("asked again", desk.errorPosition(), due[i]);
        }
    }

    // ---- SETUP TEXTS

    @Sentence(in = "SETUP TEXTS", says = "A setup is an ASCII text that is collected in a text"
            + " buffer of at most 800 bytes.")
    static void promise04_aSetupOf800Bytes(Check check) {
        String setup = "node 1;";
        CircuitDesk desk = new CircuitDesk();
        check.due("load of 800 bytes", Check.load(desk, Nets.times(793, " ") + setup), 0);
        check.due("its last bytes are read", desk.count(2), 1);
        CircuitDesk cut = new CircuitDesk();
        check.due("load with the last byte missing",
                Check.load(cut, Nets.times(794, "\n") + setup.substring(0, 6)), -1);
        check.due("position", cut.errorPosition(), 800);
        check.due("a long number of a full text",
                Check.load(cut, "node " + Nets.times(793, "0") + "1;"), 0);
        error(check, "\u00a0", 1, 0);
        error(check, "\u00ff", 1, 0);
    }

    @Sentence(in = "SETUP TEXTS",
            says = "Its tokens are words (maximal runs of the letters a to z)")
    static void promise04_wordsAreMaximalRunsOfLetters(Check check) {
        good(check, "node1;");
        error(check, "nodes 1;", 1, 0);
        error(check, "nod 1;", 1, 0);
        error(check, "ode 1;", 1, 0);
        error(check, "mode 1;", 1, 0);
        error(check, "nude 1;", 1, 0);
        error(check, "nose 1;", 1, 0);
        error(check, "nodf 1;", 1, 0);
        error(check, "no de 1;", 1, 0);
        error(check, "nodenode 1;", 1, 0);
        error(check, "node`1;", 1, 4); // the sign before a
        error(check, "nodea1;", 1, 0);
        error(check, "nodez1;", 1, 0);
        error(check, "node{1;", 1, 4); // the sign behind z
        error(check, "nodE 1;", 1, 0);
        error(check, "noDe 1;", 1, 0);
        error(check, "node A;", 1, 5);
    }

    @Sentence(in = "SETUP TEXTS", says = "numbers (maximal runs of the digits 0 to 9)")
    static void promise04_numbersAreMaximalRunsOfDigits(Check check) {
        check.due("09", good(check, "node 09;").node(0, 0), 9);
        check.due("10", good(check, "node10;").node(0, 0), 10);
        error(check, "node 1 0;", 1, 7);
        error(check, "node 1/;", 1, 6); // the sign before 0
        error(check, "node 1:;", 1, 6); // the sign behind 9
        error(check, "node +1;", 1, 5);
        error(check, "node -1;", 1, 5);
        error(check, "node 1.0;", 1, 6);
        error(check, "node 1x;", 1, 6);
        good(check, TWO_NODES + "link0 1 9 1;");
        errorAtLast(check, TWO_NODES + "link 01 91;", 2);
    }

    @Sentence(in = "SETUP TEXTS", says = "and the symbol ;.")
    static void promise04_theSymbol(Check check) {
        good(check, "node 1;node 1;");
        error(check, "node 1:", 1, 6);
        error(check, "node 1<", 1, 6); // the sign behind ;
        error(check, "node 1,", 1, 6);
        error(check, "node 1;;", 1, 7);
    }

    @Sentence(in = "SETUP TEXTS", says = "Spaces (byte 32) and line feeds (byte 10) may stand"
            + " before, between and behind tokens.")
    static void promise04_spacesAndLineFeeds(Check check) {
        for (String blank : new String[] {" ", "\n", " \n", "\n\n  "}) {
            good(check, blank);
            good(check, blank + "node" + blank + "1" + blank + ";" + blank);
        }
        for (int sign : new int[] {0, 9, 11, 12, 13, 31, 33, 127, 128, 160, 255}) {
            String other = String.valueOf((char) sign);
            error(check, other, 1, 0);
            error(check, "node" + other + "1;", 1, 4);
            error(check, "node 1;" + other, 1, 7);
        }
        good(check, TWO_NODES + "link\n0\n1\n9\n1;set 1\n0;");
    }

    @Sentence(in = "SETUP TEXTS", says = "Numbers may have any number of digits.")
    static void promise04_numbersHaveAnyNumberOfDigits(Check check) {
        check.due("12 behind zeros", good(check, "node " + Nets.times(700, "0") + "12;")
                .node(0, 0), 12);
        error(check, "node " + Nets.times(700, "0") + "13;", 2, 5);
        error(check, "node " + Nets.times(700, "0") + ";", 2, 5);
        // numbers that would be in their range if they were cut to 32 or 64 bits
        error(check, "node 4294967297;", 2, 5);
        error(check, "node 2147483649;", 2, 5);
        error(check, "node 18446744073709551617;", 2, 5);
        error(check, "node " + Nets.times(700, "1") + ";", 2, 5);
        error(check, "node 1" + Nets.times(32, "0") + ";", 2, 5);
        error(check, TWO_NODES + "link 4294967296 1 9 1;", 2, 19);
        error(check, "set 4294967296 0;", 2, 4);
    }

    @Sentence(in = "SETUP TEXTS", says = "setup = { statement \";\" }")
    static void promise04_aSetupIsAnyNumberOfStatements(Check check) {
        check.due("no statement", good(check, "").count(2), 0);
        check.due("one statement", good(check, "node 1;").count(2), 1);
        check.due("two statements", good(check, "node 1;node 1;").count(2), 2);
        check.due("many statements", good(check, Nets.times(100, "set 0 4;")).count(0), 4);
        error(check, ";", 1, 0);
        error(check, "node 1", 1, 6);
        error(check, "node 1 node 1;", 1, 7);
        error(check, "1;", 1, 0);
    }

    @Sentence(in = "SETUP TEXTS", says = {"statement = \"node\" SPACE",
        "\"link\" ONE OTHER CAPACITY DELAY", "\"set\" WHAT VALUE"})
    static void promise04_statementsHaveAllTheirNumbers(Check check) {
        String[] statements = {"node 1", TWO_NODES + "link 0 1 9 1", "set 0 1"};
        for (String statement : statements) {
            good(check, statement + ";");
            errorAtLast(check, statement + " 1;", 1);
            String less = statement;
            while (less.indexOf(' ', less.lastIndexOf(';') + 1) >= 0) {
                less = less.substring(0, less.lastIndexOf(' '));
                error(check, less + ";", 1, less.length());
                error(check, less, 1, less.length());
            }
        }
        error(check, "Link", 1, 0);
        error(check, "sets 0 1;", 1, 0);
        error(check, "circuits 1 0 0 1;", 1, 0);
        error(check, "band 1;", 1, 0);
    }

    @Sentence(in = "SETUP TEXTS", says = "\"circuit\" BAND PERIOD NODE NODE { NODE }")
    static void promise04_aCircuitHas2OrMoreNodes(Check check) {
        String row = Nets.row(6, 1, 9, 1);
        for (String less : new String[] {"circuit", "circuit 1", "circuit 1 0", "circuit 1 0 0"}) {
            error(check, row + less + ";", 1, row.length() + less.length());
            error(check, row + less, 1, row.length() + less.length());
        }
        check.due("2 nodes", good(check, row + "circuit 1 0 0 1;").circuit(0, 1), 1);
        check.due("3 nodes", good(check, row + "circuit 1 0 0 1 2;").circuit(0, 1), 2);
        check.due("6 nodes", good(check, row + "circuit 1 0 0 1 2 3 4 5;").circuit(0, 1), 5);
        error(check, row + "circuit 1 0 0 1", 1, row.length() + 15);
        error(check, row + "circuit 1 0 0 1 x;", 1, row.length() + 16);
    }

    @Sentence(in = "SETUP TEXTS",
            says = "ONE, OTHER and the NODES are nodes that are there already")
    static void promise04_nodesThatAreThereAlready(Check check) {
        errorAtLast(check, "link 0", 2);
        errorAtLast(check, "node 1;link 1", 2);
        errorAtLast(check, "node 1;link 0 1", 2);
        good(check, "node 1;node 1;link 1 0 9 1;");
        errorAtLast(check, "node 1;node 1;link 2", 2);
        errorAtLast(check, "node 1;node 1;link 1 2", 2);
        errorAtLast(check, "circuit 1 0 0", 2);
        good(check, PAIR + "circuit 1 0 1 0;");
        errorAtLast(check, PAIR + "circuit 1 0 2", 2);
        errorAtLast(check, PAIR + "circuit 1 0 1 2", 2);
        errorAtLast(check, PAIR + "circuit 1 0 1 0 2", 2);
        error(check, "node 1;link 0 1 9 1;node 1;", 2, 14);
    }

    @Sentence(in = "SETUP TEXTS", says = "the NODES are a way.")
    static void promise04_theNodesAreAWay(Check check) {
        String row = Nets.row(7, 1, 9, 1);
        good(check, row + "circuit 1 0 5 4 3 2 1 0;");
        errorAtLast(check, row + "circuit 1 0 6 5 4 3 2 1 0;", 3);
        errorAtLast(check, row + "circuit 1 0 0 1 0;", 4);
        errorAtLast(check, row + "circuit 1 0 0 2;", 4);
        check.due("ways beside another", good(check, row + "circuit 1 0 0 1 2;circuit 1 0 2 3;")
                .count(4), 2);
    }

    @Sentence(in = "SETUP TEXTS", says = "the parser reads the tokens from the first one on and"
            + " stops at the first token that is wrong.")
    static void promise04_stopsAtTheFirstWrongToken(Check check) {
        error(check, "node 13;!", 2, 5);
        error(check, "node 13 !", 2, 5);
        error(check, "node ! 13;", 1, 5);
        error(check, "node 12;node 0;x", 2, 13);
        error(check, PAIR + "link 1 0 100 10;", 4, 34);
        error(check, PAIR + "circuit 21 10 7 7;", 2, 35);
        error(check, PAIR + "circuit 20 10 7 7;", 2, 38);
        error(check, "set 2 5;", 2, 4);
        error(check, "set 1 2;set 2 5;", 2, 6);
    }

    @Sentence(in = "SETUP TEXTS", says = "The error position is the index of its first byte, or the"
            + " length of the text if the text ends too early.")
    static void promise06_thePositionIsThatOfTheFirstByte(Check check) {
        error(check, "xyz", 1, 0);
        error(check, "  xyz", 1, 2);
        error(check, "node   0013 ;", 2, 7);
        error(check, "node 1;\n\nxyz", 1, 9);
        error(check, "node", 1, 4);
        error(check, "node ", 1, 5);
        error(check, "node\n\n\n", 1, 7);
        error(check, "node 1", 1, 6);
        error(check, "node 1 ", 1, 7);
        error(check, Nets.times(796, " ") + "node", 1, 800);
        error(check, Nets.times(799, " ") + "!", 1, 799);
    }

    @Sentence(in = "SETUP TEXTS", says = "The error code, of several at one token the least")
    static void promise05_ofSeveralCodesTheLeast(Check check) {
        String row = Nets.row(7, 1, 9, 1);
        errorAtLast(check, row + "circuit 1 0 0 1 2 3 4 5 7;", 2); // 2 and 3
        errorAtLast(check, row + "circuit 1 0 0 1 2 3 4 5 0;", 3); // 3 and 4
        errorAtLast(check, row + "circuit 1 0 0 1 2 3 4 5 x;", 1); // a 7th that is no number
        errorAtLast(check, row + "circuit 1 0 0 1 7;", 2); // 2 and no link
        errorAtLast(check, row + "circuit 10 0 0 2;", 4); // 4, and no link with room
        errorAtLast(check, "node 1;node 1;node 1;link 0 1 5 1;circuit 5 0 0 1;"
                + "circuit 6 0 0 1;", 5); // no room and no label
        errorAtLast(check, "node 1;link 0 1;", 2); // no node, and not another one than is there
    }

    @Sentence(in = "SETUP TEXTS", says = "1 if the token is not allowed there, if a byte belongs to"
            + " no token, or if the text ends too early")
    static void promise05_code1(Check check) {
        error(check, "set;", 1, 3);
        error(check, "set set", 1, 4);
        error(check, "set 0 0 0", 1, 8);
        error(check, "#", 1, 0);
        error(check, "set#", 1, 3);
        error(check, "set 0 0;#", 1, 8);
        error(check, "s", 1, 0);
        error(check, "set", 1, 3);
        error(check, "set 0 0", 1, 7);
        good(check, "set 0 0;");
    }

    @Sentence(in = "SETUP TEXTS", says = "2 if a number is out of its range")
    static void promise05_code2(Check check) {
        ranged(check, "node ", ";", 1, 12);
        ranged(check, TWO_NODES + "link ", " 0 9 1;", 1, 1);
        ranged(check, TWO_NODES + "link 0 ", " 9 1;", 1, 1);
        ranged(check, TWO_NODES + "link 0 1 ", " 1;", 1, 99);
        ranged(check, TWO_NODES + "link 0 1 99 ", ";", 1, 9);
        ranged(check, TWO_NODES + "link 0 1 99 1;circuit ", " 0 0 1;", 1, 20);
        ranged(check, PAIR + "circuit 1 ", " 0 1;", 0, 9);
        ranged(check, PAIR + "circuit 1 0 ", " 0;", 1, 1);
        ranged(check, PAIR + "circuit 1 0 0 ", ";", 1, 1);
        ranged(check, "set ", " 0;", 0, 1);
        ranged(check, "set 0 ", ";", 0, 4);
        ranged(check, "set 1 ", ";", 0, 1);
    }

    /** The least and the greatest number are taken; the first one above, and 0 below 1, are not. */
    private static void ranged(Check check, String before, String behind, int least, int most) {
        good(check, before + least + behind);
        good(check, before + most + behind);
        error(check, before + (most + 1) + behind, 2, before.length());
        if (least == 1 && most > 1) {
            error(check, before + 0 + behind, 2, before.length());
        }
    }

    @Sentence(in = "SETUP TEXTS", says = "3 for the first word of an 11th node, a 17th link or a"
            + " 9th circuit, and for a 7th NODE")
    static void promise05_code3(Check check) {
        good(check, TEN_NODES);
        error(check, TEN_NODES + "node 1;", 3, TEN_NODES.length());
        error(check, TEN_NODES + " node", 3, TEN_NODES.length() + 1);
        StringBuilder links = new StringBuilder(TEN_NODES);
        for (int i = 0; i < 16; i++) {
            links.append("link ").append(i < 9 ? i : i - 9).append(' ')
                    .append(i < 9 ? i + 1 : i - 7).append(" 9 1;");
        }
        good(check, links.toString());
        error(check, links + "link 0 9 9 1;", 3, links.length());
        error(check, links + "link", 3, links.length());
        String circuits = Nets.pair(8, 99, 1) + Nets.times(8, "circuit 1 0 0 1;");
        good(check, circuits);
        error(check, circuits + "circuit 1 0 1 0;", 3, circuits.length());
        error(check, circuits + "circuit", 3, circuits.length());
        String row = Nets.row(7, 1, 9, 1) + "circuit 1 0 1 2 3 4 5 6";
        good(check, row + ";");
        error(check, row + " 0;", 3, row.length() + 1);
    }

    @Sentence(in = "SETUP TEXTS", says = "4 for OTHER if it is ONE or if there is a link between"
            + " both, and for a NODE that is in the way already or has no link to the NODE before"
            + " it")
    static void promise05_code4(Check check) {
        error(check, TWO_NODES + "link 0 0 9 1;", 4, 21);
        error(check, TWO_NODES + "link 1 1", 4, 21);
        good(check, TWO_NODES + "link 0 1 9 1;");
        error(check, PAIR + "link 0 1 9 1;", 4, 34);
        error(check, PAIR + "link 1 0", 4, 34);
        good(check, PAIR + "node 1;link 2 1 9 1;");
        String row = Nets.row(4, 2, 9, 1) + "circuit 1 0 ";
        errorAtLast(check, row + "1 1;", 4);
        errorAtLast(check, row + "1 2 1;", 4);
        errorAtLast(check, row + "0 1 2 0;", 4);
        errorAtLast(check, row + "0 2;", 4);
        errorAtLast(check, row + "0 1 3;", 4);
        good(check, row + "0 1 2 3;");
        good(check, row + "3 2 1 0;");
    }

    @Sentence(in = "SETUP TEXTS",
            says = "5 for a NODE if the link to it has no room, or if it gets no label.")
    static void promise05_code5(Check check) {
        String room = "node 9;node 9;node 9;link 0 1 20 1;link 1 2 9 1;";
        good(check, room + "circuit 9 0 0 1 2;");
        errorAtLast(check, room + "circuit 10 0 0 1 2;", 5);
        good(check, room + "circuit 9 0 0 1;circuit 11 0 0 1;");
        errorAtLast(check, room + "circuit 9 0 0 1;circuit 12 0 0 1;", 5);
        String label = "node 1;node 1;node 2;link 0 1 20 1;link 1 2 20 1;set 0 ";
        String two = ";circuit 1 0 0 1;circuit 1 0 0 1";
        good(check, label + 1 + two + ";");
        errorAtLast(check, label + 0 + two + ";", 5);
        errorAtLast(check, label + 1 + two + ";circuit 1 0 0 1;", 5);
        good(check, label + 2 + two + ";circuit 1 0 0 1;");
        // the second node takes the label that the last node would have got
        good(check, label + 4 + two + " 2;");
        errorAtLast(check, label + 4 + two + ";circuit 1 0 0 1;circuit 1 0 0 1 2;", 5);
    }
}
