/** What the tests have in common: answers that are due, exceptions that are due, texts put in. */
final class Check {
    private int wrong = 0;
    private int asked = 0;

    interface Call {
        void make();
    }

    void due(String call, long got, long want) {
        asked++;
        if (got != want) {
            fault(call + " answered " + got + ", due is " + want);
        }
    }

    void dueD(String call, double got, double want) {
        asked++;
        if (got != want) {
            fault(call + " answered " + got + ", due is " + want);
        }
    }

    void dueTrue(String claim, boolean holds) {
        asked++;
        if (!holds) {
            fault(claim);
        }
    }

    /** Two texts of several lines; the first line that differs is told. */
    void same(String claim, String got, String want) {
        String[] gotLines = got.split("\n");
        String[] wantLines = want.split("\n");
        int line = 0;
        while (line < gotLines.length - 1 && line < wantLines.length - 1
                && gotLines[line].equals(wantLines[line])) {
            line++;
        }
        dueTrue(claim + ": " + gotLines[line] + "\n    instead of: " + wantLines[line],
                got.equals(want));
    }

    void dueOutOfBounds(String call, Call made) {
        dueThrow(call, IndexOutOfBoundsException.class, made);
    }

    void dueIllegalArgument(String call, Call made) {
        dueThrow(call, IllegalArgumentException.class, made);
    }

    void dueIllegalState(String call, Call made) {
        dueThrow(call, IllegalStateException.class, made);
    }

    private void dueThrow(String call, Class<?> due, Call made) {
        asked++;
        try {
            made.make();
        } catch (RuntimeException thrown) {
            if (thrown.getClass() != due) {
                fault(call + " throws " + thrown + ", due is " + due.getName());
            }
            return;
        }
        fault(call + " throws nothing, due is " + due.getName());
    }

    void fault(String what) {
        wrong++;
        if (wrong <= 40) {
            System.out.println(what);
        }
    }

    int wrongOnes() {
        return wrong;
    }

    int askedOnes() {
        return asked;
    }

    void end(String name) {
        System.out.println(name + ": " + asked + " asked, " + wrong + " wrong");
        if (wrong != 0 || asked == 0) {
            System.exit(1);
        }
    }

    /** Puts a text into the buffer, which must be empty. */
    static void put(CircuitDesk desk, String text) {
        for (int i = 0; i < text.length(); i += 4) {
            int four = 0;
            for (int j = i; j < i + 4; j++) {
                four = four << 8 | (j < text.length() ? text.charAt(j) & 255 : 0);
            }
            desk.appendText(four);
        }
        desk.truncateText(text.length());
    }

    static int load(CircuitDesk desk, String text) {
        put(desk, text);
        return desk.load();
    }

    static CircuitDesk desk(String text) {
        CircuitDesk desk = new CircuitDesk();
        if (load(desk, text) == CircuitDesk.NONE) {
            throw new IllegalStateException("the test's own setup is wrong: " + desk.errorCode()
                    + " at " + desk.errorPosition() + " of " + text);
        }
        return desk;
    }

    /** Puts a way into the draft in place of what it had. */
    static void draft(CircuitDesk desk, int... nodes) {
        desk.clearDraft();
        for (int node : nodes) {
            desk.draft(node);
        }
    }
}
