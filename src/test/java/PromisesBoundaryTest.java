import java.util.function.Supplier;

/** Each sentence of the promises 1 to 21 that names a boundary, with a test of its own. */
public final class PromisesBoundaryTest {
    private static final int LEAST = Integer.MIN_VALUE;
    private static final int GREATEST = Integer.MAX_VALUE;

    private PromisesBoundaryTest() {
    }

    public static void main(String[] args) {
        refusals();
        promises1To4();
        promise5();
        promise6();
        promise7();
        promise8();
        promise9();
        promise10();
        promises11To13();
        promises14To16();
        promises17To19();
        promises20And21();
        Check.finish();
    }

    private static void sentence(String words, Runnable test) {
        Check.sentence(words, test);
    }

    private static void due(String what, Object got, Object want) {
        Check.due(what, got, want);
    }

    private static String nested(int depth, String inside) {
        return "f(".repeat(depth) + inside + ")".repeat(depth);
    }

    /** A run is behind it, another one could rewrite, and the buffer is neither empty nor a rule. */
    private static RecipeRewriter busy() {
        RecipeRewriter x = Check.with("s( a ); b#c\n;$", "s($0)>s(t($0))", "b>c", "t(t($0))>t($0,$0)");
        x.run(1);
        Check.type(x, "x y;");
        return x;
    }

    private static RecipeRewriter full() {
        RecipeRewriter x = Check.with("a;", "a>b");
        Check.type(x, "1+".repeat(30));
        return x;
    }

    private static RecipeRewriter withSixRules() {
        RecipeRewriter x = Check.with("a;f(b);", "a>b", "b>c", "c>d", "d>e", "e>f", "f($0)>$0");
        Check.type(x, "a>z");
        return x;
    }

    private static void refusals() {
        sentence("A call that is refused changes nothing. (type, no character)", () -> {
            for (int c : new int[] {LEAST, -1, 0, 9, 11, 31, 127, GREATEST}) {
                Check.unchanged("type(" + c + ")", PromisesBoundaryTest::busy, x -> due("type(" + c + ")", x.type(c), false));
            }
        });
        sentence("A call that is refused changes nothing. (type, 60 are there)", () ->
            Check.unchanged("type", PromisesBoundaryTest::full, x -> due("type", x.type('a'), false)));
        sentence("A call that is refused changes nothing. (type, both)", () ->
            Check.unchanged("type", PromisesBoundaryTest::full, x -> due("type", x.type(127), false)));
        sentence("A call that is refused changes nothing. (rule, not so)", () ->
            Check.unchanged("rule", PromisesBoundaryTest::busy, x -> due("rule", x.rule(), -1)));
        sentence("A call that is refused changes nothing. (rule, 6 are there)", () ->
            Check.unchanged("rule", PromisesBoundaryTest::withSixRules, x -> due("rule", x.rule(), -1)));
        sentence("A call that is refused changes nothing. (run, not 1 .. 9)", () -> {
            for (int most : new int[] {LEAST, -1, 0, 10, GREATEST}) {
                Check.unchanged("run", PromisesBoundaryTest::busy, x -> due("run(" + most + ")", x.run(most), -1));
            }
        });
    }

    private static void promises1To4() {
        sentence("1: The buffer, the loaded text and the program are empty; no rules.", PromisesBoundaryTest::allEmpty);
        sentence("2: Appends a character to the buffer: true", PromisesBoundaryTest::appends);
        sentence("2: false, refused, if c is no character", PromisesBoundaryTest::noCharacter);
        sentence("2: or 60 are there.", PromisesBoundaryTest::sixtyAreThere);
        sentence("3: The buffer becomes empty.", PromisesBoundaryTest::cleared);
        sentence("4: How many characters are in the buffer.", PromisesBoundaryTest::bufferCounts);
    }

    private static void allEmpty() {
        RecipeRewriter x = new RecipeRewriter();
        due("buffered", x.buffered(), 0);
        due("program", Check.text(x) + x.length(), "0");
        due("loaded text", Check.patch(x) + x.distance(), "0");
        due("rules", x.rules(), 0);
        due("statements", x.statements(), 0);
        due("expressions", x.expressions(), 0);
        due("rewritings", x.rewritings(), 0);
        due("cycles", x.cycles(), 0);
        for (int n : new int[] {LEAST, -1, 0, 1, GREATEST}) {
            due("at, mark, kind, start, end, fits and step of " + n, x.at(n) + x.mark(n) + x.kind(n) + x.start(n) + x.end(n)
                + x.fits(n) + x.step(n), -7);
        }
        RecipeRewriter other = Check.with("a;", "a>b");
        due("of another object", other.run(1), 1);
        due("nothing of another object", x.length() + x.rules() + new RecipeRewriter().rules(), 0);
    }

    private static void appends() {
        RecipeRewriter x = new RecipeRewriter();
        String text = "zA\n ~!0;";
        for (int n = 0; n < text.length(); n++) {
            due("type", x.type(text.charAt(n)), true);
            due("buffered", x.buffered(), n + 1);
        }
        due("not yet the program", x.length(), 0);
        x.load();
        due("in this order", Check.text(x), text);
    }

    private static void noCharacter() {
        for (int c : new int[] {LEAST, -32, -1, 0, 9, 11, 12, 13, 31, 127, 160, 255, 256 + 'a', 65536 + 'a', GREATEST}) {
            RecipeRewriter x = new RecipeRewriter();
            x.type('a');
            due("type(" + c + ")", x.type(c), false);
            due("buffered", x.buffered(), 1);
            due("then b", x.type('b'), true);
            x.load();
            due("text", Check.text(x), "ab");
        }
    }

    private static void sixtyAreThere() {
        RecipeRewriter x = new RecipeRewriter();
        Check.type(x, "x".repeat(59));
        due("the 60th", x.type('y'), true);
        due("the 61st", x.type('z'), false);
        due("the line end", x.type(10), false);
        due("buffered", x.buffered(), 60);
        due("no rule", x.rule(), -1);
        due("still full", x.type('z'), false);
        x.load();
        due("text", Check.text(x), "x".repeat(59) + "y");
        Check.type(x, "x".repeat(60));
        due("full again", x.type('z'), false);
        x.clear();
        due("cleared", x.type('z'), true);
        Check.rule(x, "a>" + "b".repeat(58));
        due("emptied by a rule of 60", x.rules() + x.buffered(), 1);
        due("then room", x.type('z'), true);
    }

    private static void cleared() {
        RecipeRewriter x = new RecipeRewriter();
        x.clear();
        due("an empty one", x.buffered(), 0);
        Check.type(x, "a".repeat(60));
        x.clear();
        due("a full one", x.buffered(), 0);
        Check.type(x, "b;");
        x.load();
        due("nothing is left of it", Check.text(x), "b;");
        Supplier<RecipeRewriter> emptied = () -> {
            RecipeRewriter y = busy();
            y.clear();
            return y;
        };
        due("text stays", Check.text(emptied.get()), Check.text(busy()));
        Check.unchanged("clear again", emptied, RecipeRewriter::clear);
    }

    private static void bufferCounts() {
        RecipeRewriter x = new RecipeRewriter();
        for (int n = 0; n < 60; n++) {
            due("buffered", x.buffered(), n);
            x.type(n % 2 == 0 ? ' ' : '\n');
        }
        due("full", x.buffered(), 60);
        x.type(' ');
        due("not more", x.buffered(), 60);
        x.load();
        due("after load", x.buffered(), 0);
    }

    private static void promise5() {
        sentence("5: What is in the buffer becomes the loaded text and the program", PromisesBoundaryTest::loadsAll);
        sentence("5: the buffer becomes empty, and no rewriting is counted", PromisesBoundaryTest::loadForgets);
        sentence("5: how many statements the program has.", PromisesBoundaryTest::loadCounts);
    }

    private static void loadsAll() {
        RecipeRewriter x = Check.with("a;", "a>b");
        due("an empty buffer", x.load(), 0);
        due("an empty program", x.length() + x.statements() + x.expressions() + x.distance(), 0);
        due("an empty loaded text", x.step(0), -1);
        String most = " a;" + "#".repeat(57);
        Check.load(x, most);
        due("60 characters", Check.text(x), most);
        due("60 steps", x.step(59) + x.step(60), 1000 + '#' - 1);
        Check.load(x, "b");
        due("a shorter one", Check.text(x) + Check.patch(x), "b=b");
        x = Check.with("p(" + "x".repeat(28) + ");\n", "p($0)>q($0,$0,$0,$0)");
        x.run(1);
        due("after one of 120", Check.load(x, "a;"), 1);
        due("nothing is left of it", x.length() + " " + Check.spans(x) + Check.marks(x) + Check.patch(x), "2 0-10.=a=;");
    }

    private static void loadForgets() {
        RecipeRewriter x = Check.with("a;a;", "a>a");
        x.run(3);
        Check.type(x, "a;");
        x.load();
        due("buffered", x.buffered(), 0);
        due("rewritings", x.rewritings(), 0);
        due("cycles", x.cycles(), 0);
        due("marks", Check.marks(x), "0.");
        due("distance", x.distance(), 0);
        due("rules stay", x.rules() + x.fits(0), 2);
        x.run(1);
        due("counted from 1", x.mark(0), 1);
    }

    private static void loadCounts() {
        String[] texts = {"", " \n#;", ";", "a", "a;", "a;b", "a;b;", "a;b;#;", ";".repeat(60), "a;".repeat(30)};
        int[] counts = {0, 0, 1, 1, 1, 2, 2, 2, 60, 30};
        for (int n = 0; n < texts.length; n++) {
            RecipeRewriter x = new RecipeRewriter();
            due("load of " + texts[n], Check.load(x, texts[n]), counts[n]);
            due("statements of " + texts[n], x.statements(), counts[n]);
        }
    }

    private static void promise6() {
        sentence("6: if its tokens are an expression, >, and an expression", PromisesBoundaryTest::ruleTokens);
        sentence("6: both of depth 12 at most", PromisesBoundaryTest::ruleDepth);
        sentence("6: and all holes of the second one are in the first one", PromisesBoundaryTest::ruleHoles);
        sentence("6: the buffer becomes empty: the rule's number.", PromisesBoundaryTest::ruleNumbers);
        sentence("6: -1, refused (the buffer stays), if it is not so", PromisesBoundaryTest::ruleRefused);
        sentence("6: or 6 rules are there.", PromisesBoundaryTest::sixRulesAreThere);
    }

    private static void dueRefused(String rule) {
        RecipeRewriter x = new RecipeRewriter();
        due("rule " + rule, Check.rule(x, rule), -1);
        due("rules after " + rule, x.rules(), 0);
        due("load after " + rule + " has all of it", x.load() + Check.text(x), x.statements() + rule);
    }

    private static void dueTaken(String rule) {
        RecipeRewriter x = new RecipeRewriter();
        due("rule " + rule, Check.rule(x, rule), 0);
        due("rules and buffered after " + rule, x.rules() + x.buffered(), 1);
    }

    private static void ruleTokens() {
        dueRefused("");
        for (String text : new String[] {" ", "#a>b", ">", "a", "a>", ">a", "a>b>", ">a>b", "a>b>c", "a>>b", "a>b;", "a;>b", ";a>b",
            "a b>c", "a>b c", "a-b", "a->b", "a=>b", "f(a>b)", "f(>a)", "f(a)>g(", "f(>g)", "f(a>g(b))", "a>b$", "a,b>c", "a>b,c"}) {
            dueRefused(text);
        }
        for (String text : new String[] {"a>b", "1>2", "$0>$0", "f()>g()", "a>f(a)", "f(a)>a", " a > b ", "a#\n>#\nb#", "\na\n>\nb\n"}) {
            dueTaken(text);
        }
        dueTaken("a".repeat(29) + ">" + "b".repeat(30));
        dueTaken("a>" + "b".repeat(58));
        dueTaken("a".repeat(58) + ">b");
        dueRefused("a".repeat(59) + ">");
    }

    private static void ruleDepth() {
        dueTaken(nested(12, "a") + ">b");
        dueRefused(nested(13, "a") + ">b");
        dueTaken("a>" + nested(12, "b"));
        dueRefused("a>" + nested(13, "b"));
        dueTaken(nested(12, "") + ">b");
        dueRefused(nested(13, "") + ">b");
        dueRefused("f(".repeat(30));
        RecipeRewriter x = Check.with(nested(12, "a") + ";", nested(12, "$0") + ">$0");
        due("run with a pattern of depth 12", x.run(1), 1);
        due("text", Check.text(x), "a;");
        x = Check.with("a;", "a>" + nested(12, "b"));
        due("run with a template of depth 12", x.run(1), 1);
        due("text of depth 12", Check.text(x), nested(12, "b") + ";");
    }

    private static void ruleHoles() {
        for (String text : new String[] {"a>$0", "1>$9", "f()>$1", "$0>$1", "f($0)>g($0,$1)", "f($1,$2)>g($1,$2,$3)", "f(g($4))>h(h($5))",
            "f($0,$1,$2,$3,$4,$5,$6,$7,$8)>$9", "f($1,$2,$3,$4,$5,$6,$7,$8,$9)>$0"}) {
            dueRefused(text);
        }
        for (String text : new String[] {"$0>a", "f($0,$1)>$1", "f($0)>g($0,$0,$0)", "f($1,$1)>1", "f(g(h($9)))>$9",
            "f($0,$1,$2,$3,$4,$5,$6,$7,$8,$9)>g($9,$0)"}) {
            dueTaken(text);
        }
    }

    private static void ruleNumbers() {
        RecipeRewriter x = new RecipeRewriter();
        for (int r = 0; r < 6; r++) {
            due("a refused one takes no number", Check.rule(x, "a>$0"), -1);
            due("rule", Check.rule(x, "a" + r + ">b"), r);
            due("buffered", x.buffered(), 0);
            due("what was a rule is not there for another", x.rule(), -1);
        }
        Check.load(x, "a0;a1;a1;a5;a5;a5;");
        due("fits of rule 0", x.fits(0), 1);
        due("fits of rule 1", x.fits(1), 2);
        due("fits of rule 5", x.fits(5), 3);
    }

    private static void ruleRefused() {
        RecipeRewriter x = Check.with("a;", "a>b");
        due("no rule", Check.rule(x, "a>c("), -1);
        due("buffered", x.buffered(), 4);
        due("going on", x.type(')'), true);
        due("now it is one", x.rule(), 1);
        due("rule 0 is as it was", x.run(1), 1);
        due("text", Check.text(x), "b;");
        x = Check.with("a;");
        due("what fits before > alone", Check.rule(x, "a>b;"), -1);
        due("is no rule in a run", x.run(1) + Check.text(x), "0a;");
        due("nor one to ask for", x.fits(0), -1);
        Check.unchanged("an unknown hole", () -> {
            RecipeRewriter y = Check.with("a;b;", "a>b", "b>c(a)");
            Check.type(y, "$1>$3");
            return y;
        }, y -> due("rule", y.rule(), -1));
    }

    private static void sixRulesAreThere() {
        RecipeRewriter x = withSixRules();
        due("the seventh", x.rule(), -1);
        due("buffered", x.buffered(), 3);
        due("rules", x.rules(), 6);
        due("the rules are as they were", x.run(1), 5 + 4 + 1);
        due("text", Check.text(x), "f;f;");
        due("load", x.load() + Check.text(x), "1a>z");
        due("still six", Check.rule(x, "a>b"), -1);
        due("neither one nor the other", Check.rule(x, "a>"), -1);
    }

    private static void promise7() {
        sentence("7: How many rules there are.", () -> {
            RecipeRewriter x = new RecipeRewriter();
            for (int r = 0; r < 6; r++) {
                due("rules", x.rules(), r);
                Check.rule(x, "a>");
                due("rules after a refused one", x.rules(), r);
                Check.rule(x, "a>a");
            }
            due("six", x.rules(), 6);
            Check.rule(x, "a>a");
            due("not seven", x.rules(), 6);
            x.clear();
            x.load();
            x.run(1);
            due("after clear, load and run", x.rules(), 6);
        });
    }

    private static void promise8() {
        sentence("8: cycles, until there was one in which nothing was rewritten", PromisesBoundaryTest::untilNothing);
        sentence("8: but at most so many", PromisesBoundaryTest::atMostSoMany);
        sentence("8: how often something was rewritten.", PromisesBoundaryTest::howOften);
        sentence("8: Refused: -1 if most is not 1 .. 9", PromisesBoundaryTest::mostOutside);
        sentence("8: -2 if in the course of it a rewriting makes the program, as it is then, longer than 120 characters",
            PromisesBoundaryTest::longerThan120);
        sentence("8: -2 .. as it is then", PromisesBoundaryTest::longerMeanwhile);
        sentence("8: or an expression of depth above 12", PromisesBoundaryTest::deeperThan12);
        sentence("8: (then all is again as before the run).", PromisesBoundaryTest::asBeforeTheRun);
    }

    private static void untilNothing() {
        RecipeRewriter x = new RecipeRewriter();
        due("of a new object", x.run(9) + " in " + x.cycles(), "0 in 1");
        x = Check.with("a;");
        due("without rules", x.run(9) + " in " + x.cycles(), "0 in 1");
        x = Check.with("", "a>b");
        due("without a program", x.run(9) + " in " + x.cycles(), "0 in 1");
        x = Check.with("a;", "b>c");
        due("nothing fits", x.run(9) + " in " + x.cycles(), "0 in 1");
        x = Check.with("a;", "b>c", "a>b");
        due("one more cycle finds nothing", x.run(9) + " in " + x.cycles(), "2 in 3");
        x = Check.with("a;", "a>a");
        due("what is rewritten to itself is rewritten", x.run(9) + " in " + x.cycles(), "9 in 9");
    }

    private static void atMostSoMany() {
        for (int most = 1; most <= 9; most++) {
            RecipeRewriter x = Check.with("s(a);", "s($0)>s(t($0))");
            due("run(" + most + ")", x.run(most) + " in " + x.cycles(), most + " in " + most);
            due("text", Check.text(x), "s(" + "t(".repeat(most) + "a" + ")".repeat(most) + ");");
        }
        RecipeRewriter x = Check.with("a;", "b>c", "a>b");
        due("as many as it takes", x.run(2) + " in " + x.cycles(), "2 in 2");
    }

    private static void howOften() {
        RecipeRewriter x = Check.with("a;f(a,a);b;", "a>b", "b>c");
        due("all rules and statements", x.run(1), 3 + 4);
        due("not those of the run before", x.run(1), 0);
        due("all of them", x.rewritings(), 7);
        x = Check.with("a;".repeat(30), "$0>$0", "$1>$1", "$2>$2", "$3>$3", "$4>$4", "$5>$5");
        due("thirty, six rules, nine cycles", x.run(9), 30 * 6 * 9);
    }

    private static void mostOutside() {
        for (int most : new int[] {LEAST, -9, -1, 0, 10, 11, 256 + 1, 65536 + 1, GREATEST}) {
            RecipeRewriter x = Check.with("a;", "a>b");
            due("run(" + most + ")", x.run(most), -1);
            due("text and counts", Check.text(x) + x.rewritings() + x.cycles(), "a;00");
        }
        RecipeRewriter x = Check.with("a;", "a>" + nested(12, "a"));
        due("once", x.run(1), 1);
        due("-1 goes before -2", x.run(10), -1);
        due("with 9 it is -2", x.run(9), -2);
        due("with 1 too", x.run(1), -2);
    }

    private static void longerThan120() {
        String rule = "p($0)>q($0,$0,$0,$0)";
        RecipeRewriter x = Check.with("p(" + "x".repeat(28) + ");", rule);
        due("to 119", x.run(1) + " " + x.length(), "1 119");
        x = Check.with("p(" + "x".repeat(28) + "); ", rule);
        due("to 120, with a blank behind", x.run(1) + " " + x.length(), "1 120");
        x = Check.with("\np(" + "x".repeat(28) + ");", rule);
        due("to 120, with a line end before", x.run(1) + " " + x.length(), "1 120");
        x = Check.with("p(" + "x".repeat(28) + ");\n", "p($0)>        q($0,$0,$0,$0)        ");
        due("to 120, with blanks around the template", x.run(1) + " " + x.length(), "1 120");
        x = Check.with("p(" + "x".repeat(28) + ");#c", rule);
        due("to 121, with a comment behind", x.run(1) + " " + x.length(), "-2 34");
        x = Check.with("  p(" + "x".repeat(28) + ");", rule);
        due("to 121, with blanks before", x.run(1) + " " + x.length(), "-2 34");
        x = Check.with("p(" + "x".repeat(28) + ");;;", rule);
        due("to 121, with statements behind", x.run(1) + " " + x.length(), "-2 34");
        x = Check.with("p(" + "x".repeat(28) + "); ", rule, "q($0,$0,$0,$0)>r($0,$0,$0,$0)");
        due("120 stays 120", x.run(1) + " " + x.length(), "2 120");
        x = Check.with("p(" + "x".repeat(27) + ");a;   ", rule, "$0>$0");
        due("120 stays 120, each one rewritten to itself", x.run(1) + " " + x.length(), "7 120");
        x = Check.with("p(" + "x".repeat(50) + ");", "p($0)>q($0,$0,$0,$0,$0,$0,$0,$0,$0,$0,$0,$0,$0,$0,$0,$0)");
        due("to far more", x.run(1) + " " + x.length(), "-2 54");
    }

    private static void longerMeanwhile() {
        String[] upAndDown = {"p($0)>q($0,$0,$0,$0)", "q($0,$0,$0,$0)>p($0)"};
        RecipeRewriter x = Check.with("p(" + "x".repeat(28) + "); ", upAndDown);
        due("120 meanwhile", x.run(1) + " " + x.length(), "2 33");
        x = Check.with("p(" + "x".repeat(28) + ");  ", upAndDown);
        due("121 meanwhile, though the next rule would shorten it", x.run(1) + " " + x.length(), "-2 34");
        x = Check.with("p(" + "x".repeat(20) + ");p(" + "x".repeat(10) + ");", upAndDown);
        due("too long by the second rewriting of a pass", x.run(1) + " " + x.length(), "-2 38");
        String four = "p($0,$1)>q($0,$0,$0,$0)";
        x = Check.with("p(" + "x".repeat(25) + ",y);p(y," + "x".repeat(20) + ");", four);
        due("what is still to come counts as it was", x.run(1) + " " + x.length(), "-2 57");
        x = Check.with("p(y," + "x".repeat(20) + ");p(" + "x".repeat(25) + ",y);", four);
        due("what was rewritten before counts as it is now", x.run(1) + " " + x.length(), "2 118");
        x = Check.with("f(h,h,h,h,h,h,h,h,h,h,h,h);", "h>iiiiiiii");
        due("27 and 12 times 7 are 111", x.run(1) + " " + x.length(), "12 111");
        x = Check.with("f(h,h,h,h,h,h,h,h,h,h,h,h,h);", "h>iiiiiiii");
        due("29 and 13 times 7 are 120", x.run(1) + " " + x.length(), "13 120");
        x = Check.with("f(h,h,h,h,h,h,h,h,h,h,h,h,h) ;", "h>iiiiiiii");
        due("30 and 13 times 7 are 121", x.run(1) + " " + x.length(), "-2 30");
        x = Check.with("s(a);", "s($0)>s(t($0,$0))");
        due("in a later cycle", x.run(9) + Check.text(x) + x.rewritings() + x.cycles(), "-2s(a);00");
    }

    private static void deeperThan12() {
        due("depth 12", Check.with(nested(11, "a") + ";", "a>g(b)").run(1), 1);
        due("depth 13", Check.with(nested(12, "a") + ";", "a>g(b)").run(1), -2);
        due("depth 12 without an argument", Check.with(nested(11, "a") + ";", "a>g()").run(1), 1);
        due("depth 13 without an argument", Check.with(nested(12, "a") + ";", "a>g()").run(1), -2);
        due("depth 12 around it", Check.with(nested(11, "a") + ";", "f(a)>g(f(a))").run(1), 1);
        due("depth 13 around it", Check.with(nested(12, "a") + ";", "f(a)>g(f(a))").run(1), -2);
        due("depth 13 by a hole", Check.with("p(" + nested(11, "a") + ");", "p($0)>p(q($0))").run(1), -2);
        due("depth 12 by a hole", Check.with("p(" + nested(10, "a") + ");", "p($0)>p(q($0))").run(1), 1);
        due("depth 13 by the second hole", Check.with("p(b," + nested(11, "a") + ");", "p($0,$1)>p($0,q($1))").run(1), -2);
        due("depth 13 by a template of 12", Check.with("g(a);", "a>" + nested(12, "b")).run(1), -2);
        due("depth 12 by a template of 11", Check.with("g(a);", "a>" + nested(11, "b")).run(1), 1);
        due("depth 12 with another NAME in it", Check.with(nested(12, "a") + ";", "a>b").run(1), 1);
        due("depth 1 beside depth 1", Check.with(nested(10, "a") + ";", "a>h(" + "g(),".repeat(12) + "g())").run(1), 1);
        due("beside one of depth 12", Check.with("g(a," + nested(11, "b") + ");", "a>" + nested(9, "c")).run(1), 1);
        due("depth 13 meanwhile", Check.with(nested(12, "a") + ";", "a>g(b)", "f(g(b))>c").run(1), -2);
        due("depth 12 goes down before", Check.with(nested(12, "a") + ";", "f(a)>b", "b>g(g(b))", "a>g(g(b))").run(1), -2);
        due("depth 12, down, up", Check.with(nested(12, "a") + ";", "f(f(a))>b", "b>g(g(b))").run(1), 2);
        due("an opaque one is none", Check.with(nested(13, "a") + ";a;", "a>g(b)").run(1), 1);
    }

    /** The call of depth 4 grows by 1 in each cycle. */
    private static RecipeRewriter beforeTooDeep() {
        RecipeRewriter x = Check.with(" s( a );b# c\n;1 +;", "b>b2", "s($0)>s( t($0))", "b2>b");
        x.run(3);
        Check.type(x, "b>$0");
        return x;
    }

    private static RecipeRewriter beforeTooLong() {
        RecipeRewriter x = Check.with("s(aaaa);b;", "b>c", "s($0)>s(t($0,$0))", "c>b");
        x.run(1);
        Check.type(x, "b>c");
        return x;
    }

    private static void asBeforeTheRun() {
        due("eight cycles are not too many", beforeTooDeep().run(8), 8 * 3);
        Check.unchanged("too deep in the ninth cycle", PromisesBoundaryTest::beforeTooDeep, x -> due("run", x.run(9), -2));
        Check.unchanged("too long", PromisesBoundaryTest::beforeTooLong, x -> due("run", x.run(9), -2));
        Check.unchanged("twice", PromisesBoundaryTest::beforeTooLong, x -> due("runs", x.run(9) + x.run(8), -4));
        Check.unchanged("in the first rewriting", () -> Check.with(nested(12, "a") + ";", "a>f(b)"),
            x -> due("run", x.run(1), -2));
        Check.unchanged("from 120 characters", () -> {
            RecipeRewriter x = Check.with("p(" + "x".repeat(28) + ");\n", "q($0,$0,$0,$0)>q($0,$0,$0,a,$0)", "p($0)>q($0,$0,$0,$0)");
            x.run(1);
            return x;
        }, x -> due("run from " + x.length(), x.run(1), -2));
        Check.unchanged("in the last rewriting of the last rule", () -> Check.with("b;" + nested(12, "a") + ";", "b>c", "a>d", "d>f()"),
            x -> due("run", x.run(1), -2));
    }

    private static void promise9() {
        sentence("9: How many cycles the latest run since the load made", PromisesBoundaryTest::latestCycles);
        sentence("9: that was not refused", PromisesBoundaryTest::cyclesAfterRefusals);
        sentence("9: 0 if there was none.", PromisesBoundaryTest::noCycles);
    }

    private static void latestCycles() {
        RecipeRewriter x = Check.with("a;b;", "b>c", "a>b");
        x.run(9);
        due("with the one that rewrote nothing", x.cycles(), 3);
        x.run(9);
        due("only the one that rewrote nothing", x.cycles(), 1);
        x = Check.with("a;", "a>a");
        for (int most = 9; most >= 1; most--) {
            x.run(most);
            due("all of them", x.cycles(), most);
        }
        x = Check.with("a;", "a>b");
        x.run(1);
        due("the one that rewrote, no more were allowed", x.cycles(), 1);
    }

    private static void cyclesAfterRefusals() {
        RecipeRewriter x = Check.with("s(a);", "s($0)>s(t($0))");
        due("run", x.run(10), -1);
        due("after -1 alone", x.cycles(), 0);
        x.run(4);
        due("run", x.run(0), -1);
        due("after -1", x.cycles(), 4);
        due("run", x.run(9), -2);
        due("after -2", x.cycles(), 4);
        Check.load(x, nested(11, "s(a)") + ";");
        due("run", x.run(9), -2);
        due("after -2 alone", x.cycles(), 0);
    }

    private static void noCycles() {
        RecipeRewriter x = new RecipeRewriter();
        due("of a new object", x.cycles(), 0);
        Check.load(x, "a;");
        due("after a load", x.cycles(), 0);
        x.run(5);
        due("after a run", x.cycles(), 1);
        Check.load(x, "a;");
        due("after another load", x.cycles(), 0);
        x.run(5);
        x.load();
        due("after a load of nothing", x.cycles(), 0);
    }

    private static void promise10() {
        sentence("10: How many rewritings there were since the load.", () -> {
            RecipeRewriter x = Check.with("s(a);b;", "s($0)>s(t($0))", "b>b");
            due("none", x.rewritings(), 0);
            due("run", x.run(0), -1);
            due("none by -1", x.rewritings(), 0);
            x.run(3);
            due("of a run", x.rewritings(), 6);
            x.run(2);
            due("of two runs", x.rewritings(), 10);
            due("run", x.run(9), -2);
            due("none by -2", x.rewritings(), 10);
            Check.load(x, "a;b;");
            due("none since the load", x.rewritings(), 0);
            x.run(1);
            due("since the load", x.rewritings(), 1);
            x.load();
            due("a load of nothing is a load", x.rewritings(), 0);
        });
    }

    private static void promises11To13() {
        sentence("11: How many characters the program has.", PromisesBoundaryTest::lengths);
        sentence("12: The character at place p (from 0) of the program", PromisesBoundaryTest::characterAt);
        sentence("12: -1 if there is none.", PromisesBoundaryTest::noCharacterAt);
        sentence("13: The mark of the innermost expression of the program whose span has place p", PromisesBoundaryTest::innermost);
        sentence("13: -1 if there is none.", PromisesBoundaryTest::noMark);
    }

    private static RecipeRewriter of120() {
        RecipeRewriter x = Check.with("p(" + "x".repeat(28) + ");\n", "p($0)>q($0,$0,$0,$0)");
        due("run to 120", x.run(1), 1);
        return x;
    }

    private static void lengths() {
        due("nothing", Check.with("").length(), 0);
        due("one", Check.with("\n").length(), 1);
        due("sixty", Check.with("#".repeat(60)).length(), 60);
        due("120", of120().length(), 120);
        RecipeRewriter x = Check.with("f(a);", "f($0)>$0");
        Check.type(x, "1234567");
        due("not the buffer", x.length(), 5);
        x.run(1);
        due("shorter", x.length(), 2);
    }

    private static void characterAt() {
        RecipeRewriter x = Check.with("a;\n~", "a>Z9");
        due("the first one", x.at(0), (int) 'a');
        due("the line end", x.at(2), 10);
        due("the last one", x.at(3), (int) '~');
        x.run(1);
        due("the first one after a run", x.at(0), (int) 'Z');
        due("the last one after a run", x.at(4), (int) '~');
        due("the last one of 120", of120().at(119), 10);
    }

    private static void noCharacterAt() {
        RecipeRewriter x = Check.with("ab;", "ab>c");
        for (int p : new int[] {LEAST, -1, 3, 4, 60, 119, 120, GREATEST}) {
            due("at(" + p + ")", x.at(p), -1);
        }
        x.run(1);
        due("behind the shorter one", x.at(2), -1);
        due("behind 120", of120().at(120), -1);
        due("of nothing", Check.with("").at(0), -1);
    }

    private static void innermost() {
        RecipeRewriter x = Check.with("f( a , g( 1 ) );", "1>2", "a>b", "g($0)>g( $0 )");
        x.run(1);
        due("text", Check.text(x), "f( b , g( 2 ) );");
        due("marks", Check.marks(x), "000200033313300.");
        due("the first place of 120", of120().mark(0), 1);
        due("the last place in the span of 120", of120().mark(117), 1);
        due("a place in its first argument", of120().mark(2), 0);
    }

    private static void noMark() {
        RecipeRewriter x = Check.with(" a ;# b;\n$;c", "a>b");
        due("space, ; and opaque ones", Check.marks(x), ".0..........");
        for (int p : new int[] {LEAST, -1, 12, 13, 120, GREATEST}) {
            due("mark(" + p + ")", x.mark(p), -1);
        }
        x = Check.with("f(a);", "f($0)>$0");
        x.run(1);
        due("the ; after a run", x.mark(1), -1);
        due("behind the shorter one", x.mark(2), -1);
        due("the ; of 120", of120().mark(118), -1);
        due("the last of 120", of120().mark(119), -1);
        due("behind 120", of120().mark(120), -1);
        due("of nothing", Check.with("").mark(0), -1);
    }

    private static void promises14To16() {
        sentence("14: How many statements the program has.", PromisesBoundaryTest::statementCounts);
        sentence("15: What statement s of the program is: 0 opaque, 1 a NAME, 2 a NUMBER, 3 a CALL", PromisesBoundaryTest::kinds);
        sentence("15: -1 if there is none.", PromisesBoundaryTest::noKind);
        sentence("16: How many expressions the program has.", PromisesBoundaryTest::expressionCounts);
    }

    private static void statementCounts() {
        due("of a new object", new RecipeRewriter().statements(), 0);
        String[] texts = {"", "\n", "# ;", ";", ";;", "a", "a;", "a;b", "a;;b;", "a;#\n", "a;#\n)", ";".repeat(60)};
        int[] counts = {0, 0, 0, 1, 2, 1, 1, 2, 3, 1, 2, 60};
        for (int n = 0; n < texts.length; n++) {
            RecipeRewriter x = Check.with(texts[n], "$0>f($0)");
            due("statements of " + texts[n], x.statements(), counts[n]);
            x.run(2);
            due("statements of " + texts[n] + " after a run", x.statements(), counts[n]);
        }
        due("statements of 120 characters", of120().statements(), 1);
    }

    private static void kinds() {
        due("each kind", Check.kinds(Check.with("+;a;0;f();f(a);;a b;$0;a")), "012330000");
        RecipeRewriter x = Check.with("a;1;f(a);g;", "f($0)>$0", "1>b", "g>2");
        x.run(1);
        due("each kind after a run", Check.kinds(x), "1112");
        due("the last of sixty", Check.with(";".repeat(59) + "a").kind(59), 0);
        due("the last of thirty", Check.with("a;".repeat(30)).kind(29), 1);
        due("depth 12", Check.with(nested(12, "1") + ";").kind(0), 3);
        due("depth 13", Check.with(nested(13, "1") + ";").kind(0), 0);
    }

    private static void noKind() {
        RecipeRewriter x = Check.with("a;b;c");
        for (int s : new int[] {LEAST, -1, 3, 4, 60, 120, GREATEST}) {
            due("kind(" + s + ")", x.kind(s), -1);
        }
        due("behind the one with ;", Check.with("a;").kind(1), -1);
        due("behind sixty", Check.with(";".repeat(60)).kind(60), -1);
        due("of nothing", Check.with("").kind(0), -1);
        due("of space", Check.with(" #;").kind(0), -1);
        Check.load(x, "a;");
        due("of the text before", x.kind(1), -1);
    }

    private static void expressionCounts() {
        due("of a new object", new RecipeRewriter().expressions(), 0);
        String[] texts = {"", "#a;", ";", "a", "a;", "f();", "f(a,1);", "f(g(a));b;", "f(a", "f(a)b;", "$0;", "a;".repeat(30)};
        int[] counts = {0, 0, 0, 0, 1, 1, 3, 4, 0, 0, 0, 30};
        for (int n = 0; n < texts.length; n++) {
            due("expressions of " + texts[n], Check.with(texts[n]).expressions(), counts[n]);
        }
        due("of depth 12", Check.with(nested(12, "a") + ";").expressions(), 13);
        due("of depth 13", Check.with(nested(13, "a") + ";").expressions(), 0);
        RecipeRewriter x = Check.with("f(a,b);", "f($0,$1)>$1", "b>g(b,b,b)");
        x.run(1);
        due("after a run", x.expressions(), 4);
        x = Check.with("f(" + "a,".repeat(19) + "a);", "a>b(a)");
        due("many", x.run(1) + " " + x.expressions(), "20 41");
        x = Check.with("p(a,a,a,a,a,a,a,a,a,a,a,a,a);", "p($0,$0,$0,$0,$0,$0,$0,$0,$0,$0,$0,$0,$0)>q($0)", "q($0)>$0");
        due("fewer", x.run(1) + " " + x.expressions(), "2 1");
    }

    private static void promises17To19() {
        sentence("17: The place of the first character of the k-th (from 0) expression of the program",
            PromisesBoundaryTest::firstPlaces);
        sentence("17: by the order of the places where they end", PromisesBoundaryTest::orderOfEnds);
        sentence("17: -1 if there is none.", PromisesBoundaryTest::noStart);
        sentence("18: The place behind the last character of the k-th expression, as in start", PromisesBoundaryTest::lastPlaces);
        sentence("18: -1 if there is none.", PromisesBoundaryTest::noEnd);
        sentence("19: How many expressions of the program the pattern of rule r fits", PromisesBoundaryTest::fittingCounts);
        sentence("19: -1 if there is no such rule.", PromisesBoundaryTest::noSuchRule);
    }

    private static void firstPlaces() {
        RecipeRewriter x = Check.with("a; bb;", "a>f(c)");
        due("the first one", x.start(0), 0);
        due("the last one", x.start(1), 3);
        x.run(1);
        due("the first one after a run", x.start(0), 2);
        due("the last one after a run", x.start(2), 6);
        due("in 120 characters", of120().start(3) + of120().start(4), 2 + 3 * 29);
    }

    private static void orderOfEnds() {
        due("arguments before their call", Check.spans(Check.with("f(a,g(1),h());b;")), "2-3 6-7 4-8 9-12 0-13 14-15");
        due("depth 12", Check.with(nested(12, "a") + ";").start(12), 0);
        due("the innermost one first", Check.with(nested(12, "a") + ";").start(0), 24);
    }

    private static void noStart() {
        RecipeRewriter x = Check.with("a;f(b);c");
        for (int k : new int[] {LEAST, -1, 3, 4, 120, GREATEST}) {
            due("start(" + k + ")", x.start(k), -1);
        }
        due("of nothing", Check.with("").start(0), -1);
        due("of an opaque one", Check.with("a").start(0), -1);
        Check.load(x, "a;");
        due("of the text before", x.start(1), -1);
    }

    private static void lastPlaces() {
        RecipeRewriter x = Check.with("a ; bb ;", "a>f( c )");
        due("the first one", x.end(0), 1);
        due("the last one", x.end(1), 6);
        x.run(1);
        due("the first one after a run", x.end(0), 4);
        due("the call", x.end(1), 6);
        due("the last one after a run", x.end(2), 11);
        due("in 120 characters", of120().end(4), 118);
        due("at the end of sixty", Check.with("a".repeat(59) + ";").end(0), 59);
    }

    private static void noEnd() {
        RecipeRewriter x = Check.with("a;f(b);c");
        for (int k : new int[] {LEAST, -1, 3, 4, 120, GREATEST}) {
            due("end(" + k + ")", x.end(k), -1);
        }
        due("of nothing", Check.with("").end(0), -1);
        due("of an opaque one", Check.with("a").end(0), -1);
        Check.load(x, "a;");
        due("of the text before", x.end(1), -1);
    }

    private static void fittingCounts() {
        RecipeRewriter x = Check.with("", "$0>1", "a>b", "f($0,$0)>$0");
        due("of nothing", x.fits(0) + x.fits(1) + x.fits(2), 0);
        Check.load(x, "f(a,a);f(a,b);f(f(1,1),f( 1 ,1));a");
        due("all", x.fits(0), 13);
        due("names", x.fits(1), 3);
        due("calls", x.fits(2), 4);
        x.run(1);
        due("all in the program as it is now", x.fits(0), 3);
        due("names in the program as it is now", x.fits(1), 0);
        due("asking rewrites nothing", x.rewritings() + Check.text(x), "131;1;1;a");
        due("in 120 characters", of120().fits(0), 0);
        x = Check.with("a;".repeat(30), "a>b");
        due("thirty", x.fits(0), 30);
    }

    private static void noSuchRule() {
        RecipeRewriter x = Check.with("a;");
        due("without rules", x.fits(0), -1);
        Check.rule(x, "a>b");
        due("the first one", x.fits(0), 1);
        due("no second one", x.fits(1), -1);
        Check.rule(x, "$0>$1");
        due("a refused one", x.fits(1), -1);
        x = withSixRules();
        due("the last one of six", x.fits(5), 1);
        for (int r : new int[] {LEAST, -1, 6, 7, GREATEST}) {
            due("fits(" + r + ")", x.fits(r), -1);
        }
    }

    private static void promises20And21() {
        sentence("20: How many steps of the patch are DELETE or INSERT.", PromisesBoundaryTest::distances);
        sentence("21: Step i (from 0) of the patch: 1000 for KEEP, 2000 for DELETE, 3000 for INSERT, plus the character",
            PromisesBoundaryTest::steps);
        sentence("21: -1 if there is none.", PromisesBoundaryTest::noStep);
    }

    /** The ; alone is kept: of 60 characters 59 go, and 119 of the new 120 come. */
    private static RecipeRewriter allReplaced() {
        RecipeRewriter x = Check.with("a".repeat(59) + ";", "$0>" + "b".repeat(57), "$0>cc($0,$0)");
        due("run", x.run(1) + " " + x.length(), "2 120");
        return x;
    }

    private static void distances() {
        due("of a new object", new RecipeRewriter().distance(), 0);
        due("of nothing", Check.with("").distance(), 0);
        due("of sixty", Check.with("a;".repeat(30)).distance(), 0);
        RecipeRewriter x = Check.with("a;", "a>b");
        x.run(1);
        due("of one replaced", x.distance(), 2);
        due("asked again", x.distance(), 2);
        due("run", x.run(0), -1);
        due("after a refused run", x.distance(), 2);
        Check.load(x, "a;");
        due("after a load", x.distance(), 0);
        due("of all replaced", allReplaced().distance(), 59 + 119);
        due("of 120", of120().distance(), 2 + 3 * 28 + 3);
    }

    private static void steps() {
        RecipeRewriter x = Check.with("a\n~;", "a>b");
        x.run(1);
        due("an opaque one", Check.patch(x), "=a=\n=~=;");
        Check.load(x, "a\n;~ ");
        x.run(1);
        due("DELETE", x.step(0), 2000 + 'a');
        due("INSERT", x.step(1), 3000 + 'b');
        due("KEEP of the least character", x.step(2), 1010);
        due("KEEP of the greatest character", x.step(4), 1126);
        due("KEEP of a blank", x.step(5), 1032);
        x = allReplaced();
        due("the first of all", x.step(0), 2000 + 'a');
        due("the last DELETE", x.step(58), 2000 + 'a');
        due("the first INSERT", x.step(59), 3000 + 'c');
        due("the last INSERT", x.step(177), 3000 + ')');
        due("the last of all", x.step(178), 1000 + ';');
    }

    private static void noStep() {
        RecipeRewriter x = Check.with("a;", "a>b");
        for (int i : new int[] {LEAST, -1, 2, 3, 180, GREATEST}) {
            due("step(" + i + ")", x.step(i), -1);
        }
        x.run(1);
        due("the last one", x.step(2), 1000 + ';');
        due("behind the last one", x.step(3), -1);
        due("behind the last one of all replaced", allReplaced().step(179), -1);
        due("behind 60 kept", Check.with(";".repeat(60)).step(60), -1);
        due("of nothing", Check.with("").step(0), -1);
        due("of a new object", new RecipeRewriter().step(0), -1);
    }
}
