import java.util.ArrayList;
import java.util.List;
import java.util.function.Consumer;
import java.util.function.Supplier;

/** Compares answers with those that are due, and helps to drive a RecipeRewriter by texts. */
final class Check {
    private static int wrong = 0;
    private static int asked = 0;
    private static String heading = "";

    private Check() {
    }

    static void due(String what, Object got, Object want) {
        asked++;
        if (!want.equals(got)) {
            wrong++;
            System.out.println(heading + what + " answered " + shown(got) + ", due is " + shown(want));
        }
    }

    /** A test of one sentence of the document: what is not as due is told with the sentence. */
    static void sentence(String words, Runnable test) {
        int before = asked;
        heading = "\"" + words + "\": ";
        test.run();
        due("a test that asks", asked > before, true);
        heading = "";
    }

    private static String shown(Object answer) {
        return answer.toString().replace("\n", "\\n");
    }

    static void finish() {
        System.out.println(asked + " answers asked, " + wrong + " not as due");
        if (wrong != 0) {
            System.exit(1);
        }
    }

    static void type(RecipeRewriter x, String text) {
        for (int i = 0; i < text.length(); i++) {
            if (!x.type(text.charAt(i))) {
                due("type of '" + text.charAt(i) + "' in " + text, false, true);
            }
        }
    }

    static int rule(RecipeRewriter x, String text) {
        x.clear();
        type(x, text);
        return x.rule();
    }

    static int load(RecipeRewriter x, String text) {
        x.clear();
        type(x, text);
        return x.load();
    }

    /** A new object with the program and the rules, which are all due to be taken. */
    static RecipeRewriter with(String program, String... rules) {
        RecipeRewriter x = new RecipeRewriter();
        for (int r = 0; r < rules.length; r++) {
            due("rule " + rules[r], rule(x, rules[r]), r);
        }
        load(x, program);
        return x;
    }

    static String text(RecipeRewriter x) {
        StringBuilder text = new StringBuilder();
        int length = x.length();
        for (int p = 0; p < length; p++) {
            text.append((char) x.at(p));
        }
        return text.toString();
    }

    /** The marks of all places, with . for none. */
    static String marks(RecipeRewriter x) {
        StringBuilder marks = new StringBuilder();
        int length = x.length();
        for (int p = 0; p < length; p++) {
            int mark = x.mark(p);
            marks.append(mark < 0 ? "." : Integer.toString(mark));
        }
        return marks.toString();
    }

    static String spans(RecipeRewriter x) {
        StringBuilder spans = new StringBuilder();
        int count = x.expressions();
        for (int k = 0; k < count; k++) {
            spans.append(k == 0 ? "" : " ").append(x.start(k)).append('-').append(x.end(k));
        }
        return spans.toString();
    }

    static String kinds(RecipeRewriter x) {
        StringBuilder kinds = new StringBuilder();
        int count = x.statements();
        for (int s = 0; s < count; s++) {
            kinds.append(x.kind(s));
        }
        return kinds.toString();
    }

    /** The steps as =c for KEEP, -c for DELETE and +c for INSERT. */
    static String patch(RecipeRewriter x) {
        StringBuilder patch = new StringBuilder();
        int step = x.step(0);
        for (int i = 1; step != -1; i++) {
            patch.append("=-+".charAt(step / 1000 - 1)).append((char) (step % 1000));
            step = x.step(i);
        }
        return patch.toString();
    }

    private static String counts(RecipeRewriter x) {
        return "buffered " + x.buffered() + " rules " + x.rules() + " cycles " + x.cycles() + " rewritings " + x.rewritings()
            + " length " + x.length() + " statements " + x.statements() + " expressions " + x.expressions()
            + " distance " + x.distance() + " fits " + x.fits(0) + " " + x.fits(1) + " " + x.fits(2) + " " + x.fits(3) + " "
            + x.fits(4) + " " + x.fits(5) + " " + x.fits(6);
    }

    /**
     * All that can be asked of an object, and what it does next. For each part an object is made
     * anew, as nothing is promised behind the 512th call.
     */
    private static List<String> answers(Supplier<RecipeRewriter> made) {
        List<String> answers = new ArrayList<>();
        answers.add(counts(made.get()));
        answers.add("text " + text(made.get()));
        answers.add("marks " + marks(made.get()));
        answers.add("kinds " + kinds(made.get()));
        answers.add("spans " + spans(made.get()));
        answers.add("patch " + patch(made.get()));
        RecipeRewriter x = made.get();
        answers.add("next run " + x.run(1) + " " + x.cycles() + " " + x.rewritings() + " " + text(x));
        x = made.get();
        x.run(1);
        answers.add("marks of the next run " + marks(x));
        x = made.get();
        answers.add("next load " + x.load() + " " + text(x));
        x = made.get();
        answers.add("next rule " + x.rule() + " " + x.buffered() + " " + x.rules());
        return answers;
    }

    /** An object with the refused call behind it is due to answer as one without it. */
    static void unchanged(String what, Supplier<RecipeRewriter> made, Consumer<RecipeRewriter> refused) {
        due(what + ", then", answers(() -> {
            RecipeRewriter x = made.get();
            refused.accept(x);
            return x;
        }), answers(made));
    }
}
