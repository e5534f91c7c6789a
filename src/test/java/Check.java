/** Compares answers with those that are due, and helps to drive a RecipeRewriter by texts. */
final class Check {
    private static int wrong = 0;
    private static int asked = 0;

    private Check() {
    }

    static void due(String what, Object got, Object want) {
        asked++;
        if (!want.equals(got)) {
            wrong++;
            System.out.println(what + " answered " + shown(got) + ", due is " + shown(want));
        }
    }

    private static String shown(Object answer) {
        return answer.toString().replace("\n", "\\n");
    }

    static void finish() {
        System.out.println(asked + " answers asked, " + wrong + " not as due");
        if (wrong != 0) {
            System.exit(1);
        }
    }

    static void type(RecipeRewriter x, String text) {
        for (int i = 0; i < text.length(); i++) {
            if (!x.type(text.charAt(i))) {
                due("type of '" + text.charAt(i) + "' in " + text, false, true);
            }
        }
    }

    static int rule(RecipeRewriter x, String text) {
        x.clear();
        type(x, text);
        return x.rule();
    }

    static int load(RecipeRewriter x, String text) {
        x.clear();
        type(x, text);
        return x.load();
    }

    /** A new object with the program and the rules, which are all due to be taken. */
    static RecipeRewriter with(String program, String... rules) {
        RecipeRewriter x = new RecipeRewriter();
        for (int r = 0; r < rules.length; r++) {
            due("rule " + rules[r], rule(x, rules[r]), r);
        }
        load(x, program);
        return x;
    }

    static String text(RecipeRewriter x) {
        StringBuilder text = new StringBuilder();
        for (int p = 0; p < x.length(); p++) {
            text.append((char) x.at(p));
        }
        return text.toString();
    }

    /** The marks of all places, with . for none. */
    static String marks(RecipeRewriter x) {
        StringBuilder marks = new StringBuilder();
        for (int p = 0; p < x.length(); p++) {
            marks.append(x.mark(p) < 0 ? "." : Integer.toString(x.mark(p)));
        }
        return marks.toString();
    }

    static String spans(RecipeRewriter x) {
        StringBuilder spans = new StringBuilder();
        for (int k = 0; k < x.expressions(); k++) {
            spans.append(k == 0 ? "" : " ").append(x.start(k)).append('-').append(x.end(k));
        }
        return spans.toString();
    }

    static String kinds(RecipeRewriter x) {
        StringBuilder kinds = new StringBuilder();
        for (int s = 0; s < x.statements(); s++) {
            kinds.append(x.kind(s));
        }
        return kinds.toString();
    }

    /** The steps as =c for KEEP, -c for DELETE and +c for INSERT. */
    static String patch(RecipeRewriter x) {
        StringBuilder patch = new StringBuilder();
        for (int i = 0; x.step(i) != -1; i++) {
            patch.append("=-+".charAt(x.step(i) / 1000 - 1)).append((char) (x.step(i) % 1000));
        }
        return patch.toString();
    }
}
