import java.util.Random;

/** Random runs of calls, the same ones each time, on the program and on the model. */
public final class ModelTest {
    private static final int RUNS = 12000;
    private static final int MOST_CALLS = 512;
    private static final int SEEN = 50;
    private static final String[] SPACE = {" ", "\n", "  ", "#\n", "# a;$1\n", "#f(a)>\n"};
    private static final String[] LEAVES = {"a", "a", "b", "1", "01", "ab", "f"};
    private static final String[] CALLS = {"f", "f", "f", "f", "f", "f", "f", "g", "g", "g", "a", "1"};
    private static final String NOISE = "aZ09$(),;> \n#+~";

    private final Random random;
    private final RecipeRewriter program = new RecipeRewriter();
    private final Model model = new Model();
    private final int run;
    private final int spaced;
    private int calls;

    private ModelTest(int run) {
        this.run = run;
        random = new Random(run);
        spaced = random.nextInt(3) * 6;
    }

    public static void main(String[] args) {
        int runs = args.length > 0 ? Integer.parseInt(args[0]) : RUNS;
        for (int run = 0; run < runs; run++) {
            new ModelTest(run).play();
        }
        Check.finish();
    }

    private void due(String call, int got, int want) {
        Check.due("run " + run + " call " + calls + " " + call, got, want);
        calls++;
    }

    private void play() {
        while (calls < MOST_CALLS - 150) {
            switch (random.nextInt(8)) {
                case 0, 1 -> giveRule();
                case 2 -> giveProgram();
                case 3 -> giveNoise();
                default -> rewrite();
            }
        }
    }

    private void type(String text) {
        for (int i = 0; i < text.length(); i++) {
            int c = text.charAt(i);
            due("type(" + c + ")", program.type(c) ? 1 : 0, model.type(c) ? 1 : 0);
        }
    }

    private void clear() {
        program.clear();
        model.clear();
        calls++;
    }

    private void giveRule() {
        String pattern = expression(random.nextInt(3), true);
        String template = random.nextInt(12) == 0 ? deep("$0") : expression(random.nextInt(4), true);
        type(space() + pattern + space() + ">" + space() + template + space());
        due("rule()", program.rule(), model.rule());
        due("buffered()", program.buffered(), model.buffered());
        due("rules()", program.rules(), model.rules());
        if (random.nextInt(3) > 0) {
            clear();
        }
    }

    private void giveProgram() {
        StringBuilder text = new StringBuilder();
        int statements = random.nextInt(5);
        for (int s = 0; s < statements; s++) {
            boolean odd = random.nextInt(8) == 0;
            String inside = random.nextInt(10) == 0 ? deep("a") : expression(random.nextInt(4), odd);
            text.append(space()).append(inside).append(space()).append(random.nextInt(15) == 0 ? "" : ";");
        }
        text.append(space());
        type(text.substring(0, Math.min(text.length(), 62)));
        due("load()", program.load(), model.load());
        look();
    }

    private void giveNoise() {
        int many = random.nextInt(20);
        for (int n = 0; n < many; n++) {
            type(NOISE.substring(random.nextInt(NOISE.length())).substring(0, 1));
        }
        int c = random.nextInt(140) - 5;
        due("type(" + c + ")", program.type(c) ? 1 : 0, model.type(c) ? 1 : 0);
        if (random.nextInt(2) == 0) {
            due("load()", program.load(), model.load());
            look();
        }
    }

    private void rewrite() {
        int most = random.nextInt(20) == 0 ? random.nextInt(14) - 2 : random.nextInt(3) + 1;
        due("run(" + most + ")", program.run(most), model.run(most));
        look();
    }

    private String space() {
        return random.nextInt(24) < spaced ? SPACE[random.nextInt(SPACE.length)] : "";
    }

    private String expression(int depth, boolean holes) {
        if (depth == 0 || random.nextInt(4) == 0) {
            if (holes && random.nextInt(2) == 0) {
                return "$" + random.nextInt(3);
            }
            return LEAVES[random.nextInt(LEAVES.length)];
        }
        StringBuilder text = new StringBuilder(CALLS[random.nextInt(CALLS.length)]).append(space()).append('(').append(space());
        int many = random.nextInt(8) == 0 ? 0 : 1 + random.nextInt(2);
        for (int n = 0; n < many; n++) {
            text.append(n == 0 ? "" : space() + "," + space()).append(expression(depth - 1, holes));
        }
        return text.append(space()).append(')').toString();
    }

    private String deep(String inside) {
        int depth = 6 + random.nextInt(8);
        return "f(".repeat(depth) + inside + ")".repeat(depth);
    }

    /** The counts, and a part of the rest: an object answers 512 calls, not more. */
    private void look() {
        due("cycles()", program.cycles(), model.cycles());
        due("rewritings()", program.rewritings(), model.rewritings());
        due("length()", program.length(), model.length());
        due("statements()", program.statements(), model.statements());
        due("expressions()", program.expressions(), model.expressions());
        switch (random.nextInt(6)) {
            case 0 -> lookAtText(model.length());
            case 1 -> lookAtMarks(model.length());
            case 2 -> lookAtKinds(model.statements());
            case 3 -> lookAtSpans(model.expressions());
            case 4 -> lookAtFits(model.rules());
            default -> lookAtPatch(model.length());
        }
    }

    /** Mostly the first of some places, sometimes the last ones; with one place outside. */
    private int firstSeen(int count, int seen) {
        return random.nextInt(2) == 0 ? -1 : Math.max(-1, count - random.nextInt(seen));
    }

    private void lookAtText(int length) {
        int first = firstSeen(length, SEEN);
        for (int p = first; p < first + SEEN && p <= length; p++) {
            due("at(" + p + ")", program.at(p), model.at(p));
        }
    }

    private void lookAtMarks(int length) {
        int first = firstSeen(length, SEEN);
        for (int p = first; p < first + SEEN && p <= length; p++) {
            due("mark(" + p + ")", program.mark(p), model.mark(p));
        }
    }

    private void lookAtKinds(int count) {
        for (int s = -1; s < SEEN && s <= count; s++) {
            due("kind(" + s + ")", program.kind(s), model.kind(s));
        }
    }

    private void lookAtSpans(int count) {
        int first = firstSeen(count, SEEN / 2);
        for (int k = first; k < first + SEEN / 2 && k <= count; k++) {
            due("start(" + k + ")", program.start(k), model.start(k));
            due("end(" + k + ")", program.end(k), model.end(k));
        }
    }

    private void lookAtFits(int count) {
        for (int r = -1; r <= count; r++) {
            due("fits(" + r + ")", program.fits(r), model.fits(r));
        }
    }

    private void lookAtPatch(int length) {
        due("distance()", program.distance(), model.distance());
        int first = firstSeen(length, SEEN);
        for (int i = first; i < first + SEEN; i++) {
            due("step(" + i + ")", program.step(i), model.step(i));
        }
    }
}
