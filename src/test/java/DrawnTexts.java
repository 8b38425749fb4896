import java.util.ArrayList;
import java.util.List;
import java.util.Random;

/** Setup texts that are drawn: mostly good ones, some of them spoilt at a place or two. */
final class DrawnTexts {
    private final Random random;

    DrawnTexts(Random random) {
        this.random = random;
    }

    String draw() {
        String text = setupText();
        return below(3) == 0 ? spoilt(text) : text;
    }

    private int below(int bound) {
        return random.nextInt(Math.max(1, bound));
    }

    private String setupText() {
        StringBuilder text = new StringBuilder();
        int nodes = below(12) == 0 ? 11 : 2 + below(9);
        int widest = below(4) == 0 ? 12 : 1 + below(3);
        for (int i = 0; i < nodes; i++) {
            statement(text, "node", 1 + below(widest));
        }
        if (below(2) == 0) {
            statement(text, "set", 0, below(5));
        }
        int[][] links = drawnLinks(nodes);
        for (int[] l : links) {
            statement(text, "link", l[0], l[1], 9 + below(40), 1 + below(below(3) == 0 ? 9 : 3));
        }
        if (below(3) == 0) {
            statement(text, "set", 1, below(2));
        }
        int circuits = below(10);
        for (int i = 0; i < circuits; i++) {
            text.append("circuit ").append(1 + below(below(3) == 0 ? 20 : 4)).append(' ')
                    .append(below(10));
            for (int node : drawnWalk(nodes, links)) {
                text.append(' ').append(node);
            }
            text.append(";");
        }
        return text.toString();
    }

    private void statement(StringBuilder text, String word, int... numbers) {
        text.append(word).append(below(2) == 0 ? " " : "");
        for (int number : numbers) {
            text.append(below(9) == 0 ? "00" : "").append(number).append(' ');
        }
        text.setLength(text.length() - below(2));
        text.append(below(20) == 0 ? ";\n " : ";");
    }

    private int[][] drawnLinks(int nodes) {
        List<int[]> links = new ArrayList<>();
        int many = below(12) == 0 ? 17 : nodes - 1 + below(6);
        for (int tries = 0; tries < 200 && links.size() < many; tries++) {
            int one = below(nodes);
            int other = links.size() < nodes - 1 ? links.size() + 1 : below(nodes);
            boolean isThere = one == other;
            for (int[] l : links) {
                isThere |= l[0] == one && l[1] == other || l[0] == other && l[1] == one;
            }
            if (!isThere || below(150) == 0) {
                links.add(new int[] {one, other});
            }
        }
        return links.toArray(new int[0][]);
    }

    private List<Integer> drawnWalk(int nodes, int[][] links) {
        List<Integer> walk = new ArrayList<>();
        walk.add(below(nodes));
        int steps = below(8) == 0 ? 6 : 1 + below(4);
        for (int tries = 0; tries < 80 && walk.size() <= steps && links.length > 0; tries++) {
            int[] l = links[below(links.length)];
            int last = walk.get(walk.size() - 1);
            int next = l[0] == last ? l[1] : l[1] == last ? l[0] : -1;
            if (next >= 0 && (!walk.contains(next) || below(40) == 0)) {
                walk.add(next);
            }
        }
        return walk;
    }

    private String spoilt(String text) {
        StringBuilder spoilt = new StringBuilder(text);
        String signs = ";;  0123456789az\n\t\rN\u00e9-";
        int many = 1 + below(2);
        for (int i = 0; i < many && spoilt.length() > 0; i++) {
            int at = below(spoilt.length());
            switch (below(5)) {
                case 0: spoilt.deleteCharAt(at); break;
                case 1: spoilt.setLength(at); break;
                case 2: spoilt.setCharAt(at, signs.charAt(below(signs.length()))); break;
                case 3: spoilt.insert(at, signs.charAt(below(signs.length()))); break;
                default: spoilt.insert(at, "123456789012345678901234567890"); break;
            }
        }
        return spoilt.toString();
    }
}
