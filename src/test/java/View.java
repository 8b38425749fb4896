/** All that can be seen of a desk as a text, so that one can be held against another. */
final class View {
    private View() {
    }

    static String of(CircuitDesk desk) {
        StringBuilder view = new StringBuilder("counts");
        for (int what = 0; what <= 16; what++) {
            add(view, desk.count(what));
        }
        nodes(desk, view);
        for (int l = 0; l < desk.count(3); l++) {
            view.append("\nlink");
            for (int what = 0; what <= 6; what++) {
                add(view, desk.link(l, what));
            }
        }
        for (int c = 0; c < desk.count(4); c++) {
            circuit(desk, c, view);
        }
        for (int p = 0; p < desk.count(6); p++) {
            view.append("\npacket");
            for (int what = 0; what <= 6; what++) {
                add(view, desk.packet(p, what));
            }
        }
        view.append("\ndraft");
        for (int i = 0; i < desk.count(16); i++) {
            add(view, desk.draftNode(i));
        }
        view.append("\nerror");
        add(view, desk.errorCode());
        add(view, desk.errorPosition());
        return view.toString();
    }

    /** The view, and what is hidden: the text and the saved states, which are used up by it. */
    static String withHidden(CircuitDesk desk) {
        StringBuilder view = new StringBuilder(of(desk));
        for (int slot = 0; slot <= 1; slot++) {
            view.append("\nsaved");
            try {
                desk.restore(slot);
                add(view, desk.count(5));
                add(view, desk.count(7));
                add(view, desk.run(9));
            } catch (IllegalStateException e) {
                view.append(" none");
            }
        }
        view.append("\ntext");
        add(view, desk.appendText(0x20202020));
        add(view, desk.load());
        add(view, desk.errorPosition());
        add(view, desk.count(2));
        return view.toString();
    }

    private static void nodes(CircuitDesk desk, StringBuilder view) {
        for (int n = 0; n < desk.count(2); n++) {
            view.append("\nnode");
            for (int what = 0; what <= 6; what++) {
                add(view, desk.node(n, what));
            }
            for (int label = 0; label < desk.node(n, 0); label++) {
                view.append(" |");
                for (int what = 0; what <= 3; what++) {
                    add(view, desk.label(n, label, what));
                }
            }
        }
    }

    private static void circuit(CircuitDesk desk, int circuit, StringBuilder view) {
        view.append("\ncircuit");
        for (int what = 0; what <= 14; what++) {
            add(view, desk.circuit(circuit, what));
        }
        view.append(' ').append(desk.meanDelay(circuit));
        for (int isNew = 0; isNew <= 1; isNew++) {
            view.append(" |");
            for (int i = 0; desk.way(circuit, isNew == 1, i, 0) != CircuitDesk.NONE; i++) {
                for (int what = 0; what <= 2; what++) {
                    add(view, desk.way(circuit, isNew == 1, i, what));
                }
            }
        }
    }

    private static void add(StringBuilder view, int number) {
        view.append(' ').append(number);
    }
}
