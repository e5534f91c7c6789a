/** Each sentence of the document's terms that names a boundary, with a test of its own. */
public final class TermsBoundaryTest {
    private static final String LETTERS = "abcdefghijklmnopqrstuvwxyzABCDEFGHIJKLMNOPQRSTUVWXYZ";
    private static final String DIGITS = "0123456789";
    private static final String[] SPACES = {" ", "\n", "  ", "#\n", "#f(;$1>\n", "##\n#\n"};

    private TermsBoundaryTest() {
    }

    public static void main(String[] args) {
        uses();
        characters();
        tokens();
        expressions();
        statements();
        limits();
        fitting();
        rewriting();
        passes();
        patch();
        Check.finish();
    }

    private static void sentence(String words, Runnable test) {
        Check.sentence(words, test);
    }

    private static void due(String what, Object got, Object want) {
        Check.due(what, got, want);
    }

    private static String nested(int depth, String inside) {
        return "f(".repeat(depth) + inside + ")".repeat(depth);
    }

    private static void dueKinds(String program, String want) {
        due("kinds of " + program, Check.kinds(Check.with(program)), want);
    }

    private static void dueSpans(String program, String want) {
        due("spans of " + program, Check.spans(Check.with(program)), want);
    }

    private static void dueTaken(String rule) {
        due("rule " + rule, Check.rule(new RecipeRewriter(), rule), 0);
    }

    private static void dueRefused(String rule) {
        RecipeRewriter x = new RecipeRewriter();
        due("rule " + rule, Check.rule(x, rule), -1);
        due("buffered after rule " + rule, x.buffered(), rule.length());
        due("rules after rule " + rule, x.rules(), 0);
    }

    /** The program that one cycle makes of a program with these rules. */
    private static void dueText(String program, String want, String... rules) {
        RecipeRewriter x = Check.with(program, rules);
        x.run(1);
        due(program + " by " + String.join(" and ", rules), Check.text(x), want);
    }

    private static void dueMarks(String program, String want, String... rules) {
        RecipeRewriter x = Check.with(program, rules);
        x.run(1);
        due("marks of " + program + " by " + String.join(" and ", rules), Check.marks(x), want);
    }

    private static void dueFits(String program, String rule, int want) {
        due("fits of " + rule + " in " + program, Check.with(program, rule).fits(0), want);
    }

    private static void uses() {
        sentence("An object is used for at most 512 calls after it has been made", TermsBoundaryTest::all512Calls);
    }

    /** 4 calls for the rule, 5 for the program, 502 runs, and the last one asks. */
    private static void all512Calls() {
        RecipeRewriter x = new RecipeRewriter();
        for (char c : "a>a".toCharArray()) {
            x.type(c);
        }
        x.rule();
        for (char c : "a;a;".toCharArray()) {
            x.type(c);
        }
        x.load();
        for (int n = 0; n < 502; n++) {
            x.run(9);
        }
        due("the 512th call, rewritings", x.rewritings(), 502 * 9 * 2);
    }

    private static void characters() {
        sentence("CHARACTERS are given as codes: 10 (the line end) and 32 .. 126.", TermsBoundaryTest::codes);
        sentence("A text is read as TOKENS with SPACE between them (before the first one and behind the last one too).",
            TermsBoundaryTest::spaceAround);
        sentence("Space: blanks (32), line ends, and COMMENTS", TermsBoundaryTest::spaces);
        sentence("# and everything behind it up to the next line end (which is not part of the comment)",
            TermsBoundaryTest::commentToLineEnd);
        sentence("or the end of the text.", TermsBoundaryTest::commentToEndOfText);
    }

    private static void codes() {
        for (int c : new int[] {9, 11, 13, 31, 127, 128, 255, 0, -1, -10, 10 + 256, 65 + 65536, Integer.MIN_VALUE, Integer.MAX_VALUE}) {
            due("type(" + c + ")", new RecipeRewriter().type(c), false);
        }
        for (int c = 10; c <= 126; c = Math.max(32, c + 1)) {
            RecipeRewriter x = new RecipeRewriter();
            due("type(" + c + ")", x.type(c), true);
            x.load();
            due("length with " + c, x.length(), 1);
            due("at(0) of " + c, x.at(0), c);
        }
    }

    private static void spaceAround() {
        for (String space : SPACES) {
            RecipeRewriter x = Check.with(space + "a;" + space, space + "a>b" + space);
            due("statements", x.statements(), 1);
            due("run", x.run(1), 1);
            due("text", Check.text(x), space + "b;" + space);
        }
    }

    private static void spaces() {
        for (String space : SPACES) {
            dueKinds(String.join(space, "f", "(", "a", ",", "1", ")", ";"), "3");
            dueTaken(String.join(space, "f", "(", "$0", ")", ">", "$0"));
            dueKinds("a" + space + "b;1" + space + "2;", "00");
            dueRefused("$" + space + "0>1");
            due("only space", Check.with(space).statements(), 0);
        }
    }

    private static void commentToLineEnd() {
        dueKinds("#a;\nb;", "1");
        dueKinds("a;#b;\n1;", "12");
        dueKinds("a#+\n;", "1");
        dueKinds("#\n\n#\na;", "1");
        dueKinds("#a#b\n1;#;#;\nc;", "21");
        dueText("#a\na;#a\n", "#a\nb;#a\n", "a>b");
        dueTaken("a#>x\n>b");
        dueRefused("a#\n#>b\n");
    }

    private static void commentToEndOfText() {
        dueKinds("#", "");
        dueKinds("#a;b;", "");
        dueKinds("a;#", "1");
        dueKinds("a;#b;", "1");
        dueKinds("a#;", "0");
        dueKinds("#".repeat(60), "");
        dueText("a;# a;", "b;# a;", "a>b");
        dueTaken("a>b#");
        dueTaken("a>b" + "#".repeat(57));
        dueRefused("a>#b");
        dueRefused("a#>b");
        dueRefused("#a>b");
    }

    private static void tokens() {
        sentence("a NAME, a letter (a .. z, A .. Z) with all the letters and digits that follow it at once",
            TermsBoundaryTest::names);
        sentence("a NUMBER, a digit with all the digits that follow it at once", TermsBoundaryTest::numbers);
        sentence("a HOLE, $ and one digit at once behind it", TermsBoundaryTest::holes);
        sentence("each of the characters ( ) , ; >;  and each other character for itself, an ODD token.",
            TermsBoundaryTest::oddTokens);
    }

    private static void names() {
        for (int n = 0; n < LETTERS.length(); n++) {
            String letter = LETTERS.substring(n, n + 1);
            dueKinds(letter + ";1" + letter + ";", "10");
            dueSpans("x" + letter + ";", "0-2");
        }
        for (String no : new String[] {"@", "[", "`", "{", "/", ":", "_", "~"}) {
            dueKinds(no + ";a" + no + ";a" + no + "b;", "000");
        }
        dueSpans("aZ09zA;f(a1b2,Z);", "0-6 9-13 14-15 7-16");
        dueSpans("a".repeat(59) + ";", "0-59");
        dueFits("ab1;ab;b1;", "ab1>1", 1);
    }

    private static void numbers() {
        for (int n = 0; n < DIGITS.length(); n++) {
            String digit = DIGITS.substring(n, n + 1);
            dueKinds(digit + ";a" + digit + ";", "21");
            dueSpans("7" + digit + ";", "0-2");
        }
        dueSpans("0123456789;", "0-10");
        dueSpans("0".repeat(59) + ";", "0-59");
        dueKinds("1a;1 2;1a1;-1;1.5;", "00000");
    }

    private static void holes() {
        for (int n = 0; n < DIGITS.length(); n++) {
            String hole = "$" + DIGITS.charAt(n);
            dueTaken(hole + ">" + hole);
            dueText("f(a);", "a;", "f(" + hole + ")>" + hole);
        }
        for (String no : new String[] {"$", "$a", "$ 0", "$\n0", "$#\n0", "$00", "$$0", "$0a", "$/", "$:", "$$"}) {
            dueRefused("f($0," + no + ")>1");
        }
        dueRefused("$>a");
        dueRefused("f(" + "$0,".repeat(19) + "$");
        RecipeRewriter x = new RecipeRewriter();
        due("with a digit, but no rule", Check.rule(x, "$0>$0;"), -1);
        due("a $ at the end, where the digit was before", Check.rule(x, "$0>$"), -1);
        due("with the digit", x.type('0'), true);
        due("then a rule", x.rule(), 0);
    }

    private static void oddTokens() {
        for (char c = 33; c <= 126; c++) {
            if ((LETTERS + DIGITS + "#;").indexOf(c) < 0) {
                dueKinds(c + ";a" + c + ";f(" + c + "b);a;", "0001");
                dueRefused("a" + c + ">" + c);
            }
        }
        dueKinds(";a;;", "010");
        dueKinds("a>b;>;f(>);", "000");
    }

    private static void expressions() {
        sentence("a CALL: a NAME, (, then no argument or arguments (expressions) with , between them, then ).",
            TermsBoundaryTest::calls);
        sentence("In rules a HOLE is an expression, too.", TermsBoundaryTest::holesOnlyInRules);
        sentence("Its SPAN are the characters from the first one of its first token to the last one of its last token",
            TermsBoundaryTest::spans);
        sentence("The DEPTH of a NAME, NUMBER or HOLE is 0, that of a call 1 more than the greatest depth of its arguments",
            TermsBoundaryTest::depthOfArguments);
        sentence("(1 if it has none).", TermsBoundaryTest::depthWithoutArguments);
    }

    private static void calls() {
        dueSpans("f();", "0-3");
        dueSpans("f(a);", "2-3 0-4");
        dueSpans("f(a,1,g());", "2-3 4-5 6-9 0-10");
        String[] none = {"f(", "f)", "f(a", "f(a))", "f(,)", "f(a,)", "f(,a)", "f(a,,b)", "f(a b)", "f((a))", "()", "(a)", "(",
            ")", ",", "a,b", "1()", "1(a)", "f()()", "f(a)b", "f(a)(b)", "f f()", "f(g(a)", "f(g(a)))", "f(1a)", "f(+)"};
        for (String text : none) {
            dueKinds(text + ";a;", "01");
            due("expressions with " + text, Check.with(text + ";a;").expressions(), 1);
            dueRefused(text + ">a");
            dueRefused("a>" + text);
        }
        String most = "f(" + "a,".repeat(27) + "a)";
        due("28 arguments", Check.with(most + ";").expressions(), 29);
        dueFits(most + ";", most + ">b", 1);
        dueRefused("f(" + "a,".repeat(29));
        dueRefused("f(" + "a,".repeat(28) + "a)");
        RecipeRewriter x = new RecipeRewriter();
        due("a call that does not end", Check.rule(x, "a>b("), -1);
        due("without what made it a call", Check.rule(x, "a>b"), 0);
    }

    private static void holesOnlyInRules() {
        dueKinds("$0;f($0);f(a,g($9));a;", "0001");
        due("expressions with a hole", Check.with("$0;f($0);f(a,g($9));").expressions(), 0);
        dueText("$0;f($0);", "$0;f($0);", "$0>a", "f($0)>b");
        dueTaken("$0>$0");
        dueRefused("$0()>a");
        dueRefused("$0(a)>a");
        dueRefused("f($0)>$0()");
    }

    private static void spans() {
        dueSpans("  aa  ;\n12#\n;# \n f ( b # )\n ) ;", "2-4 8-10 21-22 17-29");
        dueMarks(" f ( a ) ; ", ".0000000...", "b>c");
    }

    private static void depthOfArguments() {
        dueKinds("f(a," + nested(11, "a") + ",a);", "3");
        dueKinds("f(a," + nested(12, "a") + ",a);", "0");
        dueKinds("f(" + nested(11, "1") + ",a);", "3");
        dueKinds("f(" + nested(12, "1") + ",a);", "0");
        dueKinds("f(a," + nested(11, "1") + ");", "3");
        dueKinds("f(a," + nested(12, "1") + ");", "0");
        for (String leaf : new String[] {"a", "1", "$0"}) {
            dueTaken(nested(12, leaf) + ">a");
            dueRefused(nested(13, leaf) + ">a");
            dueTaken("$0>" + nested(12, leaf));
            dueRefused("$0>" + nested(13, leaf));
        }
        dueKinds("f(f(),f(),f(),f(),f(),f(),f(),f(),f(),f(),f(),f(),f());", "3");
    }

    private static void depthWithoutArguments() {
        dueKinds(nested(11, "g()") + ";", "3");
        dueKinds(nested(12, "g()") + ";", "0");
        dueTaken(nested(11, "g()") + ">a");
        dueRefused(nested(12, "g()") + ">a");
        dueTaken("a>" + nested(11, "g()"));
        dueRefused("a>" + nested(12, "g()"));
    }

    private static void statements() {
        sentence("each one is the tokens behind the one before up to and with the first ;", TermsBoundaryTest::firstSemicolon);
        sentence("(the last one may have none).", TermsBoundaryTest::lastStatement);
        sentence("Are these tokens an expression without holes, with a depth of at most 12, and a ;, then that is the"
            + " statement's expression", TermsBoundaryTest::statementDepth);
        sentence("otherwise the statement is OPAQUE and has no expressions", TermsBoundaryTest::opaqueStatement);
        sentence("also a ; alone", TermsBoundaryTest::semicolonAlone);
        sentence("and a last one without ;", TermsBoundaryTest::lastWithoutSemicolon);
    }

    private static void firstSemicolon() {
        dueKinds("f(a;b);", "00");
        dueKinds("f(a;b;c);", "010");
        dueKinds("a;b;1;f();", "1123");
        dueKinds("a\n;\nb\n;", "11");
    }

    private static void lastStatement() {
        due("nothing", Check.with("").statements(), 0);
        due("a", Check.with("a").statements(), 1);
        due("a;", Check.with("a;").statements(), 1);
        due("a;b", Check.with("a;b").statements(), 2);
        due("a; and space", Check.with("a; \n#b").statements(), 1);
        due("a; and an odd one", Check.with("a;?").statements(), 2);
    }

    private static void statementDepth() {
        dueKinds(nested(12, "a") + ";a;", "31");
        due("expressions of depth 12", Check.with(nested(12, "a") + ";a;").expressions(), 14);
        dueKinds(nested(13, "a") + ";a;", "01");
        due("expressions of depth 13", Check.with(nested(13, "a") + ";a;").expressions(), 1);
        dueKinds(nested(19, "a") + ";", "0");
        dueKinds("f(".repeat(30), "0");
        dueKinds("f(".repeat(29) + ";a", "00");
        dueText(nested(13, "a") + ";a;", nested(13, "a") + ";b;", "a>b");
    }

    private static void opaqueStatement() {
        RecipeRewriter x = Check.with("f(a) b; f(a,$1); f(a ; a", "f($0)>b", "a>b", "b>c", "$0>d");
        due("kinds", Check.kinds(x), "0000");
        due("expressions", x.expressions(), 0);
        due("start", x.start(0), -1);
        due("mark", x.mark(0), -1);
        due("fits", x.fits(3), 0);
        due("run", x.run(9), 0);
        due("text", Check.text(x), "f(a) b; f(a,$1); f(a ; a");
    }

    private static void semicolonAlone() {
        for (String text : new String[] {";", " ;", "#a\n;", "; "}) {
            dueKinds(text, "0");
            due("expressions of " + text, Check.with(text).expressions(), 0);
        }
        dueKinds(";;a;;", "0010");
        due("sixty", Check.kinds(Check.with(";".repeat(60))), "0".repeat(60));
    }

    private static void lastWithoutSemicolon() {
        for (String text : new String[] {"a", "1", "f(a)", "f()", "a #;"}) {
            dueKinds(text, "0");
            dueKinds("b;" + text, "10");
            due("expressions of " + text, Check.with(text).expressions(), 0);
            due("mark in " + text, Check.with(text).mark(0), -1);
            dueText(text, text, "$0>c");
        }
    }

    private static void limits() {
        sentence("There are a BUFFER, in which texts are typed (at most 60 characters)", TermsBoundaryTest::buffer60);
        sentence("the PROGRAM text (at most 120 characters)", TermsBoundaryTest::program120);
        sentence("and at most 6 RULES, numbered 0, 1, .. .", TermsBoundaryTest::rules6);
    }

    private static void buffer60() {
        RecipeRewriter x = new RecipeRewriter();
        for (int n = 0; n < 60; n++) {
            due("type " + n, x.type('a'), true);
        }
        due("type 60", x.type('b'), false);
        due("type 61", x.type('b'), false);
        due("buffered", x.buffered(), 60);
        x.load();
        due("text", Check.text(x), "a".repeat(60));
        due("type into the emptied buffer", x.type('c'), true);
    }

    private static void program120() {
        RecipeRewriter x = Check.with("p(" + "x".repeat(28) + ");\n", "p($0)>q($0,$0,$0,$0)");
        due("run to 120", x.run(1), 1);
        due("length", x.length(), 120);
        due("the last one", x.at(119), 10);
        due("the last ;", x.at(118), (int) ';');
        due("behind", x.at(120), -1);
        due("mark at the last )", x.mark(117), 1);
        due("end of the call", x.end(4), 118);
        x = Check.with("p(" + "x".repeat(28) + ");\n\n", "p($0)>q($0,$0,$0,$0)");
        due("run to 121", x.run(1), -2);
        due("length", x.length(), 34);
    }

    private static void rules6() {
        RecipeRewriter x = new RecipeRewriter();
        for (int r = 0; r < 6; r++) {
            due("rule " + r, Check.rule(x, "a>b"), r);
        }
        due("rule 6", Check.rule(x, "a>b"), -1);
        due("again", x.rule(), -1);
        due("rules", x.rules(), 6);
    }

    private static void fitting() {
        sentence("a HOLE fits every one", TermsBoundaryTest::holeFitsAll);
        sentence("where the same hole stands several times in a pattern the expressions there must have the same tokens",
            TermsBoundaryTest::sameHole);
        sentence("a NAME, a NUMBER fits one with the same characters", TermsBoundaryTest::sameCharacters);
        sentence("a CALL fits a call with the same name and as many arguments, if its arguments fit, each one.",
            TermsBoundaryTest::sameCall);
        sentence("A hole STANDS FOR the expression at its first place in the pattern (from the left).",
            TermsBoundaryTest::firstPlace);
    }

    private static void holeFitsAll() {
        dueFits("a;1;f();f(b,2);", "$5>1", 6);
        dueFits(nested(12, "a") + ";", "$0>1", 13);
        dueFits("f(a,1);f(g(),h(a,1));f(a);", "f($0,$1)>1", 2);
        dueFits("", "$0>1", 0);
    }

    private static void sameHole() {
        String rule = "f($0,$0)>$0";
        dueFits("f(a,a);f(1,1);f(g(),g());f(g(a,1),g(a,1));", rule, 4);
        dueFits("f(g(a),g ( a#,\n));f( a ,\na#\n);", rule, 2);
        dueFits("f(a,b);f(a,A);f(1,01);f(a,a());f(a(),a);f(a,ab);f(ab,a);", rule, 0);
        dueFits("f(g(a),g(b));f(g(a),g(a,a));f(g(a,a),g(a));f(g(),h());", rule, 0);
        dueFits("f(a,b,a);f(a,a,b);f(a,b,b);f(a,a,a);", "f($1,$2,$1)>$2", 2);
        dueFits("f(a,a,a);f(a,a,b);f(b,a,a);f(a,b,a);", "f($0,$0,$0)>$0", 1);
        dueFits("f(a,g(a));f(g(a),g(a));f(g(a),g(g(a)));", "f($0,g($0))>$0", 2);
        RecipeRewriter x = Check.with("f(a,a);f(b,b);", rule);
        due("each fitting starts anew", x.fits(0), 2);
    }

    private static void sameCharacters() {
        dueFits("a;A;ab;b;a();aa;", "a>1", 1);
        dueFits("a1;a;a01;a11;", "a1>1", 1);
        dueFits("1;01;10;11;a1;", "1>1", 1);
        dueFits("00;0;000;", "00>1", 1);
        dueFits("a;f(a);f(f(a,a));", "a>1", 4);
    }

    private static void sameCall() {
        dueFits("f();f( );f(#\n);f(a);f;", "f()>1", 3);
        dueFits("f();f(a);f(a,b);f;g(a);F(a);", "f($0)>1", 1);
        dueFits("f();f(a);f(a,b);f(a,b,c);", "f($0,$1)>1", 1);
        dueFits("f(a,1);f(a,2);f(b,1);f(1,a);", "f(a,1)>1", 1);
        dueFits("f(g(a));f(g(b));f(a);f(h(a));", "f(g(a))>1", 1);
        dueFits("f(g(a,b));f(g(a),b);f(a,g(b));", "f(g($0),$1)>1", 1);
        dueFits(nested(12, "a") + ";", nested(12, "$0") + ">1", 1);
        dueFits(nested(11, "a") + ";", nested(12, "$0") + ">1", 0);
    }

    private static void firstPlace() {
        dueText("f(a(b),a( b ));", "a(b);", "f($0,$0)>$0");
        dueText("f(a( b ),a(b));", "a( b );", "f($0,$0)>$0");
        dueText("f(g(h( )),h());", "h( );", "f(g($0),$0)>$0");
        dueText("f(h(),g(h( )));", "h();", "f($0,g($0))>$0");
        dueMarks("f(g,h());", "222.", "g>h()", "f($0,$0)>h()");
        dueMarks("f(g,h());", "111.", "g>h()", "f($0,$0)>$0");
        dueMarks("f(h(),g);", "000.", "g>h()", "f($0,$0)>$0");
    }

    private static void rewriting() {
        sentence("the characters of its span become those of the template's span", TermsBoundaryTest::templateSpan);
        sentence("in these each hole becomes the characters of the span of what it stands for.", TermsBoundaryTest::filledHoles);
        sentence("What is outside of the span stays.", TermsBoundaryTest::outsideStays);
        sentence("Rewritings are counted 1, 2, .. from the latest load on.", TermsBoundaryTest::countedFromLoad);
        sentence("Every expression has a MARK: 0 when it was loaded", TermsBoundaryTest::marksLoaded);
        sentence("the number of the rewriting for the expressions of the template (but the holes)",
            TermsBoundaryTest::marksOfTemplate);
        sentence("an expression that a hole stands for, and the expressions in it, keep the marks that they have.",
            TermsBoundaryTest::marksKept);
    }

    private static void templateSpan() {
        dueText("a;", "g( # x\n 1 );", "a> \n#y\n g( # x\n 1 ) #z");
        dueText("a;", "g #x\n ( );", "a > g #x\n ( ) ");
        dueText("f ( a );", "b;", "f(a)>b");
        dueText("f();", "g( );", "f()>g( )");
    }

    private static void filledHoles() {
        dueText("f( a , 1 );", "g(1,a, 1);", "f($0,$1)>g($1,$0, $1)");
        dueText("f( g( a #\n) );", "g( a #\n);", "f($0)>$0");
        dueText("f(a,1);", "b;", "f($0,$1)>b");
        dueText("f(0,1,2,3,4,5,6,7,8,9);", "g(9,7,5,3,1);", "f($0,$1,$2,$3,$4,$5,$6,$7,$8,$9)>g($9,$7,$5,$3,$1)");
        dueText("f(0,1,2,3,4,5,6,7,8,9);", "g(8,6,4,2,0);", "f($0,$1,$2,$3,$4,$5,$6,$7,$8,$9)>g($8,$6,$4,$2,$0)");
    }

    private static void outsideStays() {
        dueText(" #a\n a #a\n ; a a; f( a , b );a", " #a\n c #a\n ; a a; f( c , b );a", "a>c");
    }

    private static void countedFromLoad() {
        RecipeRewriter x = Check.with("a;a;", "a>a");
        due("before", Check.marks(x), "0.0.");
        x.run(1);
        due("first", Check.marks(x), "1.2.");
        x.run(1);
        due("going on", Check.marks(x), "3.4.");
        Check.load(x, "a;");
        due("loaded", Check.marks(x) + x.rewritings(), "0.0");
        x.run(1);
        due("from 1 again", Check.marks(x) + x.rewritings(), "1.1");
    }

    private static void marksLoaded() {
        due("marks", Check.marks(Check.with("f(a,g(1)); a ;b")), "000000000..0...");
    }

    private static void marksOfTemplate() {
        dueMarks("a;", "111111111.", "a>f(b,g(1))");
        dueMarks("f(a);", "111011.", "f($0)>g( $0 )");
        dueMarks("f(a);", "0.", "f($0)>$0");
        dueMarks("g(a);", "0010.", "a>b");
    }

    private static void marksKept() {
        dueMarks("f(g(a));", "3322123.", "a>b", "g($0)>h($0)", "f($0)>k($0)");
        dueMarks("f(g(a));", "3313.", "a>b", "g($0)>h($0)", "f(h($0))>k($0)");
        dueMarks("f(g( a ));", "1100000010000001.", "f($0)>k($0,$0)");
    }

    private static void passes() {
        sentence("first a pass over each of its arguments, from the left", TermsBoundaryTest::argumentsFirst);
        sentence("then, if the pattern fits the expression as it is now, it is rewritten.", TermsBoundaryTest::asItIsNow);
        sentence("What came of it is not gone over in this pass.", TermsBoundaryTest::notGoneOver);
        sentence("A pass over the program: over the expressions of its statements, in their order.",
            TermsBoundaryTest::statementsInOrder);
        sentence("A CYCLE: a pass of each rule over the program, in the order of the rules.", TermsBoundaryTest::rulesInOrder);
    }

    private static void argumentsFirst() {
        dueMarks("f(a,g(a),a);", "00100020030.", "a>b");
        dueMarks("g(f(f(a)),f(a));", "002211012033030.", "f($0)>f($0)");
    }

    private static void asItIsNow() {
        dueText("f(f(f(a)));", "a;", "f(a)>a");
        dueText("f(f(a));", "f(b);", "f(a)>b");
        dueText("f(a,g(a));", "f(a,b);", "g(a)>b");
    }

    private static void notGoneOver() {
        dueText("a;", "f(a);", "a>f(a)");
        dueText("f(a);", "f(f(a));", "f($0)>f(f($0))");
        dueText("g(f(a));", "g(f(f(a)));", "f($0)>f(f($0))");
    }

    private static void statementsInOrder() {
        dueMarks("a;b;f(a);+;a", "1.0.0020....", "a>c");
    }

    private static void rulesInOrder() {
        dueText("a;", "c;", "a>b", "b>c");
        dueText("a;", "b;", "b>c", "a>b");
        dueMarks("b;a;", "2.1.", "a>c", "b>d");
        dueText("a;", "g;", "a>b", "b>c", "c>d", "d>e", "e>f", "f>g");
    }

    private static void patch() {
        sentence("The PATCH leads from the loaded text to the program", TermsBoundaryTest::fromLoadedText);
        sentence("until both texts are used up", TermsBoundaryTest::bothUsedUp);
        sentence("with the fewest DELETEs and INSERTs", TermsBoundaryTest::fewest);
        sentence("of several, that which has KEEP, or else DELETE, at the first place where they differ.",
            TermsBoundaryTest::firstDifference);
    }

    private static void duePatch(String program, String want, String... rules) {
        RecipeRewriter x = Check.with(program, rules);
        x.run(1);
        due("patch of " + program + " by " + String.join(" and ", rules), Check.patch(x), want);
    }

    private static void fromLoadedText() {
        RecipeRewriter x = Check.with("a;", "a>b", "b>c", "c>a");
        x.run(1);
        due("back again", Check.patch(x), "=a=;");
        x = Check.with("a;", "a>b", "b>aa");
        x.run(1);
        due("not over b", Check.patch(x), "=a+a=;");
        x.run(1);
        due("not from the program before the run", Check.patch(x), "=a+a=;");
    }

    private static void bothUsedUp() {
        due("of nothing", Check.patch(Check.with("")), "");
        due("unchanged", Check.patch(Check.with("a ;\n#")), "=a= =;=\n=#");
        duePatch("a;#", "=a+b=;=#", "a>ab");
        duePatch("ab;", "=a-b=;", "ab>a");
        duePatch("ab(#;\n);", "=a-b-(-#=;-\n-)-;", "ab()>a");
        duePatch("a;", "=a+b+(+#=;+\n+)+;", "a>ab(#;\n)");
        duePatch("x".repeat(59) + ";", "+g+(" + "=x".repeat(59) + "+#=;+\n+)+;", "$0>g($0#;\n)");
        RecipeRewriter x = Check.with("   p(" + "y".repeat(27) + ");f(x#;\n);", "f($0)>$0", "p($0)>q($0,$0,$0,$0)");
        x.run(1);
        due("120 characters", x.length(), 120);
        due("the loaded text's end behind that of the 120", Check.patch(x).endsWith(")=;-f-(=x-#=;-\n-)-;"), true);
    }

    private static void fewest() {
        duePatch("xab;", "-x=a=b+y=;", "xab>aby");
        duePatch("abxcd;", "=a=b-x=c=d=;", "abxcd>abcd");
        RecipeRewriter x = Check.with("f(a,b);", "f($0,$1)>f($1,$0)");
        x.run(1);
        due("distance of turned arguments", x.distance(), 4);
    }

    private static void firstDifference() {
        duePatch("a;", "-a+b=;", "a>b");
        duePatch("ab;", "-a=b+a=;", "ab>ba");
        duePatch("aa;", "=a-a=;", "aa>a");
        duePatch("a;", "=a+a=;", "a>aa");
        duePatch("abcab;", "=a=b-c-a-b=;", "abcab>ab");
        duePatch("abc;", "-a-b-c+x+y+z=;", "abc>xyz");
        duePatch("f(a,b);", "=f=(-a-,=b+,+a=)=;", "f($0,$1)>f($1,$0)");
    }
}
