import java.util.ArrayList;
import java.util.List;
import java.util.regex.Matcher;
import java.util.regex.Pattern;

/**
 * The document once more, slow and plain: trees whose calls hold their own characters between the
 * arguments, marks at the nodes, all measured anew at each question.
 */
final class Model {
    private static final Pattern PIECE =
        Pattern.compile("[A-Za-z][A-Za-z0-9]*|[0-9]+|\\$[0-9]|#[^\n]*|[\\x00-\\x7f]");

    private static final class Token {
        final String text;
        final int start;
        final int end;

        Token(String text, int start, int end) {
            this.text = text;
            this.start = start;
            this.end = end;
        }
    }

    /** glue has one text for a leaf; for a call, one before each argument and one behind the last. */
    private static final class Node {
        final List<String> glue = new ArrayList<>();
        final List<Node> arguments = new ArrayList<>();
        String name;
        boolean call;
        int mark;

        String text() {
            StringBuilder text = new StringBuilder(glue.get(0));
            for (int i = 0; i < arguments.size(); i++) {
                text.append(arguments.get(i).text()).append(glue.get(i + 1));
            }
            return text.toString();
        }

        String tokens() {
            StringBuilder text = new StringBuilder(name).append(call ? "(" : "");
            for (Node argument : arguments) {
                text.append(argument.tokens()).append(',');
            }
            return text.append(call ? ")" : "").toString();
        }

        int depth() {
            int deepest = 0;
            for (Node argument : arguments) {
                deepest = Math.max(deepest, argument.depth());
            }
            return call ? deepest + 1 : 0;
        }

        boolean isHole() {
            return name.startsWith("$");
        }

        boolean hasHole() {
            return isHole() || arguments.stream().anyMatch(Node::hasHole);
        }
    }

    /** An opaque stretch of text, or (root not null) an expression. */
    private static final class Part {
        String text;
        Node root;
    }

    private static final class Outgrown extends RuntimeException {
        private static final long serialVersionUID = 1L;
    }

    private String buffer = "";
    private String loaded = "";
    private List<Part> parts = new ArrayList<>();
    private final List<Integer> kinds = new ArrayList<>();
    private final List<Node> patterns = new ArrayList<>();
    private final List<Node> templates = new ArrayList<>();
    private int cycles;
    private int rewritings;
    private String patchFrom = "";
    private String patchTo = "";
    private String patchKept = "";

    // What reads a text

    private List<Token> tokens = new ArrayList<>();
    private String reading = "";
    private int next;

    private void tokenize(String text) {
        reading = text;
        next = 0;
        tokens = new ArrayList<>();
        Matcher matcher = PIECE.matcher(text);
        while (matcher.find()) {
            String piece = matcher.group();
            if (!piece.startsWith("#") && !piece.equals(" ") && !piece.equals("\n")) {
                tokens.add(new Token(piece, matcher.start(), matcher.end()));
            }
        }
    }

    private String peek() {
        return next < tokens.size() ? tokens.get(next).text : "";
    }

    /** Null if there is none; then the reader stands anywhere. */
    private Node parse() {
        Node node = new Node();
        node.name = peek();
        if (!node.name.matches("[A-Za-z0-9]+|\\$[0-9]")) {
            return null;
        }
        int start = tokens.get(next).start;
        next++;
        node.call = Character.isLetter(node.name.charAt(0)) && peek().equals("(");
        if (!node.call) {
            node.glue.add(node.name);
            return node;
        }
        next++;
        boolean more = !peek().equals(")");
        while (more) {
            if (next >= tokens.size()) {
                return null;
            }
            node.glue.add(reading.substring(start, tokens.get(next).start));
            Node argument = parse();
            if (argument == null || next >= tokens.size()) {
                return null;
            }
            node.arguments.add(argument);
            start = tokens.get(next - 1).end;
            more = peek().equals(",");
            if (more) {
                next++;
            }
        }
        if (!peek().equals(")")) {
            return null;
        }
        node.glue.add(reading.substring(start, tokens.get(next).end));
        next++;
        return node;
    }

    // The promises

    boolean type(int c) {
        if (buffer.length() == 60 || c != 10 && (c < 32 || c > 126)) {
            return false;
        }
        buffer += (char) c;
        return true;
    }

    void clear() {
        buffer = "";
    }

    int buffered() {
        return buffer.length();
    }

    int load() {
        loaded = buffer;
        buffer = "";
        cycles = 0;
        rewritings = 0;
        parts = new ArrayList<>();
        kinds.clear();
        tokenize(loaded);
        int behind = 0;
        int first = 0;
        while (first < tokens.size()) {
            next = first;
            Node root = parse();
            boolean clear = root != null && peek().equals(";") && root.depth() <= 12 && !root.hasHole();
            if (clear) {
                addPart(loaded.substring(behind, tokens.get(first).start), null);
                addPart("", root);
                behind = tokens.get(next - 1).end;
                kinds.add(root.call ? 3 : Character.isLetter(root.name.charAt(0)) ? 1 : 2);
            } else {
                kinds.add(0);
            }
            while (first < tokens.size() && !tokens.get(first).text.equals(";")) {
                first++;
            }
            first++;
        }
        addPart(loaded.substring(behind), null);
        return kinds.size();
    }

    private void addPart(String text, Node root) {
        Part part = new Part();
        part.text = text;
        part.root = root;
        parts.add(part);
    }

    int rule() {
        tokenize(buffer);
        Node pattern = parse();
        if (pattern == null || !peek().equals(">")) {
            return -1;
        }
        next++;
        Node template = parse();
        boolean right = template != null && next == tokens.size() && pattern.depth() <= 12 && template.depth() <= 12;
        if (!right || patterns.size() == 6 || !holesOf(pattern).containsAll(holesOf(template))) {
            return -1;
        }
        buffer = "";
        patterns.add(pattern);
        templates.add(template);
        return patterns.size() - 1;
    }

    private static List<String> holesOf(Node node) {
        List<String> holes = new ArrayList<>();
        if (node.isHole()) {
            holes.add(node.name);
        }
        for (Node argument : node.arguments) {
            holes.addAll(holesOf(argument));
        }
        return holes;
    }

    int rules() {
        return patterns.size();
    }

    int run(int most) {
        if (most < 1 || most > 9) {
            return -1;
        }
        List<Part> partsBefore = new ArrayList<>();
        for (Part part : parts) {
            Part copy = new Part();
            copy.text = part.text;
            copy.root = part.root == null ? null : copyOf(part.root);
            partsBefore.add(copy);
        }
        int before = rewritings;
        try {
            int made = 0;
            int done = -1;
            while (made < most && done != rewritings) {
                done = rewritings;
                for (int r = 0; r < patterns.size(); r++) {
                    for (Part part : parts) {
                        if (part.root != null) {
                            pass(r, part.root, part);
                        }
                    }
                }
                made++;
            }
            cycles = made;
        } catch (Outgrown e) {
            parts = partsBefore;
            rewritings = before;
            return -2;
        }
        return rewritings - before;
    }

    private static Node copyOf(Node node) {
        Node copy = new Node();
        copy.glue.addAll(node.glue);
        copy.name = node.name;
        copy.call = node.call;
        copy.mark = node.mark;
        for (Node argument : node.arguments) {
            copy.arguments.add(copyOf(argument));
        }
        return copy;
    }

    private void pass(int r, Node node, Part part) {
        for (Node argument : new ArrayList<>(node.arguments)) {
            pass(r, argument, part);
        }
        Node[] holes = new Node[10];
        if (fits(patterns.get(r), node, holes)) {
            rewritings++;
            Node filled = fill(templates.get(r), holes);
            node.glue.clear();
            node.glue.addAll(filled.glue);
            node.arguments.clear();
            node.arguments.addAll(filled.arguments);
            node.name = filled.name;
            node.call = filled.call;
            node.mark = filled.mark;
            if (text().length() > 120 || part.root.depth() > 12) {
                throw new Outgrown();
            }
        }
    }

    private static boolean fits(Node pattern, Node node, Node[] holes) {
        if (pattern.isHole()) {
            int digit = pattern.name.charAt(1) - '0';
            if (holes[digit] == null) {
                holes[digit] = copyOf(node);
            }
            return holes[digit].tokens().equals(node.tokens());
        }
        boolean same = pattern.name.equals(node.name) && pattern.call == node.call
            && pattern.arguments.size() == node.arguments.size();
        for (int i = 0; same && i < pattern.arguments.size(); i++) {
            same = fits(pattern.arguments.get(i), node.arguments.get(i), holes);
        }
        return same;
    }

    private Node fill(Node template, Node[] holes) {
        if (template.isHole()) {
            return copyOf(holes[template.name.charAt(1) - '0']);
        }
        Node filled = new Node();
        filled.glue.addAll(template.glue);
        filled.name = template.name;
        filled.call = template.call;
        filled.mark = rewritings;
        for (Node argument : template.arguments) {
            filled.arguments.add(fill(argument, holes));
        }
        return filled;
    }

    int cycles() {
        return cycles;
    }

    int rewritings() {
        return rewritings;
    }

    String text() {
        StringBuilder text = new StringBuilder();
        for (Part part : parts) {
            text.append(part.root == null ? part.text : part.root.text());
        }
        return text.toString();
    }

    int length() {
        return text().length();
    }

    int at(int p) {
        return p >= 0 && p < length() ? text().charAt(p) : -1;
    }

    /** All expressions, arguments first, each as start, end, mark. */
    private List<int[]> spans() {
        List<int[]> spans = new ArrayList<>();
        int p = 0;
        for (Part part : parts) {
            p = part.root == null ? p + part.text.length() : addSpans(part.root, p, spans);
        }
        return spans;
    }

    private static int addSpans(Node node, int start, List<int[]> spans) {
        int p = start + node.glue.get(0).length();
        for (int i = 0; i < node.arguments.size(); i++) {
            p = addSpans(node.arguments.get(i), p, spans) + node.glue.get(i + 1).length();
        }
        spans.add(new int[] {start, p, node.mark});
        return p;
    }

    int mark(int p) {
        for (int[] span : spans()) {
            if (p >= span[0] && p < span[1]) {
                return span[2];
            }
        }
        return -1;
    }

    int statements() {
        return kinds.size();
    }

    int kind(int s) {
        if (s < 0 || s >= kinds.size()) {
            return -1;
        }
        if (kinds.get(s) == 0) {
            return 0;
        }
        int known = 0;
        for (int i = 0; i < s; i++) {
            known += kinds.get(i) == 0 ? 0 : 1;
        }
        for (Part part : parts) {
            if (part.root != null && known-- == 0) {
                return part.root.call ? 3 : Character.isLetter(part.root.name.charAt(0)) ? 1 : 2;
            }
        }
        return -1;
    }

    int expressions() {
        return spans().size();
    }

    int start(int k) {
        return k >= 0 && k < expressions() ? spans().get(k)[0] : -1;
    }

    int end(int k) {
        return k >= 0 && k < expressions() ? spans().get(k)[1] : -1;
    }

    int fits(int r) {
        if (r < 0 || r >= patterns.size()) {
            return -1;
        }
        int count = 0;
        for (Part part : parts) {
            count += part.root == null ? 0 : countFits(patterns.get(r), part.root);
        }
        return count;
    }

    private static int countFits(Node pattern, Node node) {
        int count = fits(pattern, node, new Node[10]) ? 1 : 0;
        for (Node argument : node.arguments) {
            count += countFits(pattern, argument);
        }
        return count;
    }

    /** The best patch as a text of steps; a KEEP sorts before a DELETE, and that before an INSERT. */
    private String patch() {
        String to = text();
        if (!loaded.equals(patchFrom) || !to.equals(patchTo)) {
            patchFrom = loaded;
            patchTo = to;
            patchKept = bestPatch(to);
        }
        return patchKept;
    }

    private String bestPatch(String to) {
        String[][] best = new String[loaded.length() + 1][to.length() + 1];
        for (int i = loaded.length(); i >= 0; i--) {
            for (int j = to.length(); j >= 0; j--) {
                String found = i == loaded.length() && j == to.length() ? "" : null;
                if (i < loaded.length() && j < to.length() && loaded.charAt(i) == to.charAt(j)) {
                    found = better(found, "1" + best[i + 1][j + 1]);
                }
                if (i < loaded.length()) {
                    found = better(found, "2" + best[i + 1][j]);
                }
                if (j < to.length()) {
                    found = better(found, "3" + best[i][j + 1]);
                }
                best[i][j] = found;
            }
        }
        return best[0][0];
    }

    private static String better(String one, String other) {
        if (one == null) {
            return other;
        }
        int difference = changes(one) - changes(other);
        return difference < 0 || difference == 0 && one.compareTo(other) <= 0 ? one : other;
    }

    private static int changes(String patch) {
        int changes = 0;
        for (int i = 0; i < patch.length(); i++) {
            changes += patch.charAt(i) == '1' ? 0 : 1;
        }
        return changes;
    }

    int distance() {
        return changes(patch());
    }

    int step(int wanted) {
        String patch = patch();
        int i = 0;
        int j = 0;
        for (int n = 0; n < patch.length(); n++) {
            int step = patch.charAt(n) - '0';
            int c = step == 3 ? text().charAt(j) : loaded.charAt(i);
            if (n == wanted) {
                return step * 1000 + c;
            }
            i += step == 3 ? 0 : 1;
            j += step == 2 ? 0 : 1;
        }
        return -1;
    }
}
