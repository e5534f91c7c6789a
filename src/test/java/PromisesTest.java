/** Each promise of the document: ordinary inputs, the edges that it names, and wrong inputs. */
public final class PromisesTest {
    private static final int[] OUTSIDE = {-1, Integer.MIN_VALUE, Integer.MAX_VALUE};

    private PromisesTest() {
    }

    public static void main(String[] args) {
        promise1NewObject();
        promise2Type();
        promise3Clear();
        promise4Buffered();
        promise5Load();
        promise6Rule();
        promise6RuleDepth();
        promise7Rules();
        promise8Run();
        promise8RunOrder();
        promise8RunKeepsSpace();
        promise8RunRefusedByLength();
        promise8RunRefusedByDepth();
        promise9Cycles();
        promise10Rewritings();
        promise11Length();
        promise12At();
        promise13Mark();
        promise14Statements();
        promise15Kind();
        promise16Expressions();
        promise17And18StartAndEnd();
        promise19Fits();
        promise20Distance();
        promise21Step();
        Check.finish();
    }

    private static void due(String what, Object got, Object want) {
        Check.due(what, got, want);
    }

    private static void promise1NewObject() {
        RecipeRewriter x = new RecipeRewriter();
        due("1 buffered", x.buffered(), 0);
        due("1 rules", x.rules(), 0);
        due("1 length", x.length(), 0);
        due("1 statements", x.statements(), 0);
        due("1 expressions", x.expressions(), 0);
        due("1 cycles", x.cycles(), 0);
        due("1 rewritings", x.rewritings(), 0);
        due("1 distance", x.distance(), 0);
        due("1 step", x.step(0), -1);
        due("1 at", x.at(0), -1);
        due("1 mark", x.mark(0), -1);
        due("1 kind", x.kind(0), -1);
        due("1 start", x.start(0), -1);
        due("1 end", x.end(0), -1);
        due("1 fits", x.fits(0), -1);
        due("1 rule of nothing", x.rule(), -1);
        due("1 run", x.run(9), 0);
        due("1 cycles after the run", x.cycles(), 1);
        due("1 load of nothing", x.load(), 0);
    }

    private static void promise2Type() {
        for (int c = -3; c <= 300; c++) {
            RecipeRewriter one = new RecipeRewriter();
            due("2 type(" + c + ")", one.type(c), c == 10 || c >= 32 && c <= 126);
            due("2 buffered after " + c, one.buffered(), c == 10 || c >= 32 && c <= 126 ? 1 : 0);
        }
        RecipeRewriter x = new RecipeRewriter();
        due("2 least", x.type(Integer.MIN_VALUE), false);
        due("2 greatest", x.type(Integer.MAX_VALUE), false);
        x.clear();
        for (int n = 0; n < 60; n++) {
            due("2 type " + n, x.type('a' + n % 26), true);
        }
        due("2 the 61st", x.type('z'), false);
        due("2 full", x.buffered(), 60);
        x.load();
        due("2 the 61st left no trace", x.length(), 60);
        due("2 the 60th", x.at(59), (int) 'h');
    }

    private static void promise3Clear() {
        RecipeRewriter x = Check.with("a;", "a>b");
        Check.type(x, "x;");
        x.clear();
        due("3 buffered", x.buffered(), 0);
        due("3 program", Check.text(x), "a;");
        due("3 rules", x.rules(), 1);
        due("3 rule of nothing", x.rule(), -1);
        x.clear();
        due("3 again", x.buffered(), 0);
    }

    private static void promise4Buffered() {
        RecipeRewriter x = new RecipeRewriter();
        Check.type(x, "ab\n c");
        due("4 typed", x.buffered(), 5);
        x.type(1);
        due("4 refused", x.buffered(), 5);
        due("4 no rule", x.rule(), -1);
        due("4 after a refused rule", x.buffered(), 5);
        x.load();
        due("4 after load", x.buffered(), 0);
        due("4 rule", Check.rule(x, "a>b"), 0);
        due("4 after rule", x.buffered(), 0);
    }

    private static void promise5Load() {
        RecipeRewriter x = new RecipeRewriter();
        due("5 load", Check.load(x, "a; b(1);\n?"), 3);
        due("5 text", Check.text(x), "a; b(1);\n?");
        due("5 patch", Check.patch(x), "=a=;= =b=(=1=)=;=\n=?");
        due("5 only space", Check.load(x, "  \n # a; b;"), 0);
        due("5 comment to the end", Check.load(x, "a;# b;"), 1);
        due("5 comment to the line end", Check.load(x, "a;# b;\nb;"), 2);
        Check.rule(x, "a>b");
        Check.load(x, "a;");
        x.run(3);
        due("5 rewritings before", x.rewritings(), 1);
        Check.load(x, "a;");
        due("5 rewritings", x.rewritings(), 0);
        due("5 cycles", x.cycles(), 0);
        due("5 rules stay", x.rules(), 1);
        due("5 distance", x.distance(), 0);
        due("5 marks", Check.marks(x), "0.");
        x.run(1);
        due("5 counted from 1 again", Check.marks(x), "1.");
        due("5 load of nothing", x.load(), 0);
        due("5 length of nothing", x.length(), 0);
    }

    private static void promise6Rule() {
        RecipeRewriter x = new RecipeRewriter();
        String[] wrong = {"", " ", ">", "a", "a>", ">a", "a>b>c", "a>b;", "a b>c", "a>b c", "a>(b)", "f(>a", "f()>a)",
            "f(a,)>a", "f(,a)>a", "f(a b)>a", "1(a)>a", "$0(a)>a", "$>a", "a>$0", "f($0)>$1", "f($1)>g($1,$0)", "a+>b",
            "a>#b", "#a>b", "a#>b", "$12>a", "1a>b", "$a>b", "$ 0>a", "f(a;b)>c", "f(a>b)", "a=>b", "f(($0))>a", "f($0)>$0()", "g(h(),1a1)>0"};
        for (String text : wrong) {
            due("6 rule " + text, Check.rule(x, text), -1);
            due("6 buffer stays at " + text, x.buffered(), text.length());
        }
        due("6 none was taken", x.rules(), 0);
        String[] right = {"a>b", " # x\n f ( ) # >\n > # y\n 12 # z", "$0>$0", "f($9,$9)>$9", "g(h(),a1)>0",
            "A1z(f($1,$2),3)>f($2,$2,$1)"};
        for (int r = 0; r < 6; r++) {
            due("6 rule " + right[r], Check.rule(x, right[r]), r);
            due("6 buffer after " + right[r], x.buffered(), 0);
        }
        due("6 the seventh", Check.rule(x, "a>b"), -1);
        due("6 buffer after the seventh", x.buffered(), 3);
        due("6 still six", x.rules(), 6);
        due("6 load of what was no rule", x.load(), 1);
    }

    private static String nested(int depth, String inside) {
        return "f(".repeat(depth) + inside + ")".repeat(depth);
    }

    private static void promise6RuleDepth() {
        RecipeRewriter x = new RecipeRewriter();
        due("6 pattern of depth 12", Check.rule(x, nested(12, "a") + ">b"), 0);
        due("6 pattern of depth 13", Check.rule(x, nested(13, "a") + ">b"), -1);
        due("6 without argument, 12", Check.rule(x, nested(12, "") + ">b"), 1);
        due("6 without argument, 13", Check.rule(x, nested(13, "") + ">b"), -1);
        due("6 template of depth 12", Check.rule(x, "$0>" + nested(12, "$0")), 2);
        due("6 template of depth 13", Check.rule(x, "$0>" + nested(13, "$0")), -1);
        due("6 only opened", Check.rule(x, "f(".repeat(30)), -1);
    }

    private static void promise7Rules() {
        RecipeRewriter x = new RecipeRewriter();
        for (int r = 0; r < 6; r++) {
            due("7 rules", x.rules(), r);
            Check.rule(x, "a>");
            due("7 rules after a refusal", x.rules(), r);
            Check.rule(x, "a>b");
        }
        Check.rule(x, "a>b");
        due("7 six at most", x.rules(), 6);
        Check.load(x, "a;");
        due("7 rules after a load", x.rules(), 6);
    }

    private static void promise8Run() {
        for (int most : new int[] {0, 10, -1, Integer.MIN_VALUE, Integer.MAX_VALUE}) {
            RecipeRewriter x = Check.with("a;", "a>b");
            due("8 run(" + most + ")", x.run(most), -1);
            due("8 nothing changed", Check.text(x) + x.rewritings() + x.cycles(), "a;00");
        }
        RecipeRewriter x = Check.with("f(f(f(f(f(f(f(f(f(f(a))))))))));", "f(a)>a");
        due("8 all in one pass", x.run(1), 10);
        due("8 text", Check.text(x), "a;");
        x = Check.with("s(a);", "s($0)>s(t($0))");
        due("8 nine cycles", x.run(9), 9);
        due("8 nine times", Check.text(x), "s(t(t(t(t(t(t(t(t(t(a))))))))));");
        x = Check.with("s(a);", "s($0)>s(t($0))");
        due("8 one cycle", x.run(1), 1);
        due("8 once", Check.text(x), "s(t(a));");
        x = Check.with("a;b;a", "a>b", "b>c");
        due("8 the second rule sees the first one's", x.run(9), 3);
        due("8 opaque stays", Check.text(x), "c;c;a");
        x = Check.with("a;b;", "b>c", "a>b");
        due("8 order of the rules", x.run(1), 2);
        due("8 first rule was first", Check.text(x), "b;c;");
        due("8 next run", x.run(1), 1);
        due("8 then", Check.text(x), "c;c;");
        x = Check.with("f(a, b);", "f($0,$1)>$1");
        due("8 a hole alone", x.run(1), 1);
        due("8 what it stands for", Check.text(x), "b;");
    }

    private static void promise8RunOrder() {
        RecipeRewriter x = Check.with("g(a,h(a,a),a);", "a>b(a)");
        due("8 not gone over again", x.run(1), 4);
        due("8 each once", Check.text(x), "g(b(a),h(b(a),b(a)),b(a));");
        due("8 numbers from the left, inner first", Check.marks(x), "0011110002222033330044440.");
        x = Check.with("f(f(a));", "f($0)>g(f($0))");
        due("8 inner, then outer", x.run(1), 2);
        due("8 text", Check.text(x), "g(f(g(f(a))));");
        due("8 marks", Check.marks(x), "2222111101122.");
        x = Check.with("f(a);f(b);", "f(b)>a", "a>c", "f(c)>b");
        due("8 three rules", x.run(1), 4);
        due("8 cycle goes rule by rule", Check.text(x), "b;c;");
    }

    private static void promise8RunKeepsSpace() {
        RecipeRewriter x = Check.with(" \n# f(a)\n f # 1\n( a # 2\n) # 3\n ; $ f(a) # 4", "f( $0 ) > # 5\n g( # $0\n $0 ,$0 ) # 6");
        due("8 with space", x.run(1), 1);
        due("8 space", Check.text(x), " \n# f(a)\n g( # $0\n a ,a ) # 3\n ; $ f(a) # 4");
        x = Check.with("f( a( b ) , a(b)#\n );", "f($0,$0)>$0");
        due("8 same tokens", x.run(1), 1);
        due("8 first place", Check.text(x), "a( b );");
        x = Check.with("f(g(#,\n1),2 );", "f($1,$2)>h($2 , $1)");
        due("8 comment in a hole", x.run(1), 1);
        due("8 comment stays", Check.text(x), "h(2 , g(#,\n1));");
        x = Check.with("f($0); f(a b); f(a)); +; f(a) f(a);", "f($0)>g", "a>b");
        due("8 nothing to understand", x.run(9), 0);
        due("8 as it was", Check.text(x), "f($0); f(a b); f(a)); +; f(a) f(a);");
    }

    private static void promise8RunRefusedByLength() {
        String start = "p(" + "x".repeat(27) + ");";
        RecipeRewriter x = Check.with(start, "p($0)>q($0,$0,$0,$0)");
        due("8 just under", x.run(1), 1);
        due("8 length", x.length(), 4 * 27 + 3 + 4);
        x = Check.with("p(" + "x".repeat(28) + "); ", "p($0)>q($0,$0,$0,$0)");
        due("8 of 120", x.run(1), 1);
        due("8 length 120", x.length(), 120);
        x = Check.with("p(" + "x".repeat(28) + ");  ", "p($0)>q($0,$0,$0,$0)");
        due("8 of 121", x.run(1), -2);
        due("8 length stays", x.length(), 34);
        due("8 patch stays", x.distance(), 0);
        x = Check.with("a;b;", "b>c", "a>a(a,a,a,a,a)", "a(a,a,a,a,a)>d");
        due("8 shorter at the end of each cycle", x.run(2), 3);
        x = Check.with("a;a;a;a;a;a;a;a;a;a;", "a>bbbbbbbbbbbb", "bbbbbbbbbbbb>c");
        due("8 too long only meanwhile", x.run(1), -2);
        due("8 as before", Check.text(x), "a;a;a;a;a;a;a;a;a;a;");
        due("8 marks as before", Check.marks(x), "0.0.0.0.0.0.0.0.0.0.");
        due("8 spans as before", Check.spans(x), "0-1 2-3 4-5 6-7 8-9 10-11 12-13 14-15 16-17 18-19");
        x = Check.with("a;" + "f(c,c,c);".repeat(5), "a>" + "b".repeat(54), "c>ddd", "f(ddd,ddd,ddd)>e");
        due("8 what is still to come counts as it is", x.run(1), -2);
        x = Check.with("f(c,c,c,c,c);" + "a;", "$0>" + "b".repeat(50));
        due("8 later statements count", x.run(1), -2);
    }

    private static void promise8RunRefusedByDepth() {
        RecipeRewriter x = Check.with(nested(11, "a") + ";", "a>g(b)");
        due("8 depth 12", x.run(1), 1);
        due("8 kind", x.kind(0), 3);
        x = Check.with(nested(12, "a") + ";", "a>g(b)");
        due("8 depth 13", x.run(1), -2);
        due("8 all as before", Check.text(x) + x.rewritings() + x.cycles(), nested(12, "a") + ";00");
        x = Check.with(nested(12, "a") + ";", "a>g()");
        due("8 depth 13 without argument", x.run(1), -2);
        x = Check.with(nested(12, "a") + ";", "a>g(b)", "f(g(b))>c");
        due("8 too deep only meanwhile", x.run(1), -2);
        x = Check.with(nested(12, "a") + ";", "f(a)>g(f(a))");
        due("8 around it", x.run(1), -2);
        x = Check.with("g(b," + nested(11, "a") + ");", "b>h(b)");
        due("8 beside the deep one", x.run(1), 1);
        x = Check.with("g(" + nested(8, "a") + ");", "a>g(a)", "g($0)>$0");
        due("8 not too deep meanwhile", x.run(9), 2 * 9 + 1);
        x = Check.with("s(a);", "s($0)>s(f(f($0)))");
        due("8 first cycles were fine", x.run(5), 5);
        due("8 the sixth is too deep", x.run(1), -2);
        Check.load(x, "s(a);");
        due("8 so are six at once", x.run(6), -2);
        due("8 none of them stays", Check.text(x) + Check.marks(x) + x.rewritings(), "s(a);0000.0");
    }

    private static void promise9Cycles() {
        RecipeRewriter x = Check.with("f(f(a));", "f(a)>b", "f(b)>a");
        due("9 before", x.cycles(), 0);
        due("9 run", x.run(9), 2);
        due("9 the empty cycle counts", x.cycles(), 2);
        due("9 run again", x.run(5), 0);
        due("9 only the empty cycle", x.cycles(), 1);
        x.run(0);
        due("9 a refused run is none", x.cycles(), 1);
        x = Check.with("s(a);", "s($0)>s(t($0))");
        x.run(4);
        due("9 at most so many", x.cycles(), 4);
        x.run(3);
        due("9 the latest", x.cycles(), 3);
        due("9 outgrown", x.run(9), -2);
        due("9 outgrown run is none", x.cycles(), 3);
        Check.load(x, "a;");
        due("9 load", x.cycles(), 0);
        x = Check.with("", new String[0]);
        x.run(7);
        due("9 without rules", x.cycles(), 1);
    }

    private static void promise10Rewritings() {
        RecipeRewriter x = Check.with("s(a);b;", "s($0)>s(t($0))", "b>b");
        due("10 none", x.rewritings(), 0);
        x.run(3);
        due("10 three cycles", x.rewritings(), 6);
        due("10 b>b counts", x.run(1), 2);
        due("10 runs add up", x.rewritings(), 8);
        due("10 outgrown", x.run(9), -2);
        due("10 as before it", x.rewritings(), 8);
        x.run(1);
        due("10 goes on from there", x.rewritings(), 10);
        due("10 mark of the latest", x.mark(0), 9);
        x.load();
        due("10 load", x.rewritings(), 0);
    }

    private static void promise11Length() {
        RecipeRewriter x = Check.with(" a ;\n# x", "a>abc(a)");
        due("11 loaded", x.length(), 8);
        Check.type(x, "xyz");
        due("11 not the buffer", x.length(), 8);
        x.run(1);
        due("11 rewritten", x.length(), 13);
        x.clear();
        x.load();
        due("11 nothing", x.length(), 0);
    }

    private static void promise12At() {
        RecipeRewriter x = Check.with("a;~\n", "a>B2");
        due("12 first", x.at(0), (int) 'a');
        due("12 odd", x.at(2), (int) '~');
        due("12 line end", x.at(3), 10);
        due("12 behind", x.at(4), -1);
        for (int p : OUTSIDE) {
            due("12 at(" + p + ")", x.at(p), -1);
        }
        x.run(1);
        due("12 rewritten", Check.text(x), "B2;~\n");
    }

    private static void promise13Mark() {
        RecipeRewriter x = Check.with(" f ( a , 12 ) ; b c; d", "12>g( 3 )", "f($0,$1)>h($1, k($0) )");
        due("13 loaded", Check.marks(x), ".000000000000.........");
        x.run(1);
        due("13 text", Check.text(x), " h(g( 3 ), k(a) ) ; b c; d");
        due("13 rewritten", Check.marks(x), ".2211111122220222.........");
        for (int p : OUTSIDE) {
            due("13 mark(" + p + ")", x.mark(p), -1);
        }
        due("13 behind the program", x.mark(x.length()), -1);
        x = Check.with("f(f(a));", "f($0)>$0");
        x.run(1);
        due("13 a hole alone keeps the mark", Check.text(x) + x.mark(0), "a;0");
        x = Check.with("p(a);", "a>b", "p($0)>q($0,$0)");
        x.run(1);
        due("13 both copies keep it", Check.marks(x), "221212.");
        x = Check.with("p(a(b),c);", "c>a(b)", "p($0,$0)>$0");
        x.run(1);
        due("13 marks of the first place", Check.marks(x), "0000.");
        x = Check.with("f(a#\n,b);", "a>c");
        x.run(1);
        due("13 a comment in a call", Check.marks(x), "00100000.");
    }

    private static void promise14Statements() {
        RecipeRewriter x = Check.with("", "a>b(1)");
        String[] texts = {"", " # ;\n", ";", ";;", "a", "a;", "a;b", "a; ", "a;#;", "a;#\n$", "#;\n;", ";+"};
        int[] counts = {0, 0, 1, 2, 1, 1, 2, 1, 1, 2, 1, 2};
        for (int i = 0; i < texts.length; i++) {
            due("14 load " + texts[i], Check.load(x, texts[i]), counts[i]);
            due("14 statements of " + texts[i], x.statements(), counts[i]);
            x.run(1);
            due("14 after a run " + texts[i], x.statements(), counts[i]);
        }
        due("14 as many as can be", Check.load(x, ";".repeat(60)), 60);
    }

    private static void promise15Kind() {
        RecipeRewriter x = Check.with("a1;007;f();f(1,g(2)) ;a b;;1(2);f(,);f(a;$1;$;a>b;1a;a", "a1>f()", "f()>7");
        due("15 kinds", Check.kinds(x), "12330000000000");
        due("15 behind", x.kind(14), -1);
        for (int s : OUTSIDE) {
            due("15 kind(" + s + ")", x.kind(s), -1);
        }
        x.run(1);
        due("15 kinds after a run", Check.kinds(x), "22230000000000");
        x = Check.with("f(a)a;f(a));(a);f(a,);f((a));f(a)(b);f(g;f a;f(#);\n)", new String[0]);
        due("15 opaque", Check.kinds(x), "000000000");
        x = Check.with("f(#);\n);" + nested(12, "") + ";", new String[0]);
        due("15 comment with ; and depth 12", Check.kinds(x), "33");
        x = Check.with(nested(13, "") + ";" + "a;", new String[0]);
        due("15 depth 13", Check.kinds(x), "01");
        x = Check.with(nested(12, "a,b") + ";g(h($3));", new String[0]);
        due("15 a hole inside", Check.kinds(x), "30");
    }

    private static void promise16Expressions() {
        RecipeRewriter x = Check.with("f(a,g(1,b));c;d e;f(", "c>h(h(c))");
        due("16 expressions", x.expressions(), 6);
        x.run(1);
        due("16 rewritten", x.expressions(), 8);
        Check.load(x, "f(a;a");
        due("16 opaque has none", x.expressions(), 0);
        Check.load(x, "f();");
        due("16 no argument", x.expressions(), 1);
        Check.load(x, "a;".repeat(30));
        due("16 thirty", x.expressions(), 30);
        Check.load(x, nested(13, "a") + ";");
        due("16 too deep", x.expressions(), 0);
    }

    private static void promise17And18StartAndEnd() {
        RecipeRewriter x = Check.with(" f ( aa , g(1 , b) ) ; $ ; cc;", "cc>h ( 1)");
        due("17 spans", Check.spans(x), "5-7 12-13 16-17 10-18 1-20 27-29");
        x.run(1);
        due("17 spans after a run", Check.spans(x), "5-7 12-13 16-17 10-18 1-20 31-32 27-33");
        due("17 behind", x.start(7), -1);
        due("18 behind", x.end(7), -1);
        for (int k : OUTSIDE) {
            due("17 start(" + k + ")", x.start(k), -1);
            due("18 end(" + k + ")", x.end(k), -1);
        }
    }

    private static void promise19Fits() {
        RecipeRewriter x = Check.with("f(a,g(a,a));g( a(1) ,a( 1));f(01,1);", "$0>$0", "a>b", "g($0,$0)>$0", "f($0,$1)>$1",
            "$3>1", "f(1,1)>1");
        due("19 a hole fits all", x.fits(0), 13);
        due("19 a name", x.fits(1), 3);
        due("19 the same hole", x.fits(2), 2);
        due("19 a call", x.fits(3), 2);
        due("19 another hole", x.fits(4), 13);
        due("19 numbers by their characters", x.fits(5), 0);
        due("19 no rule", x.fits(6), -1);
        for (int r : OUTSIDE) {
            due("19 fits(" + r + ")", x.fits(r), -1);
        }
        x = Check.with("f();f(a);f(a,b);f;F(a);ff(a);f(f(a,b));1;", "f()>1", "f($0)>1", "f($0,$1)>1", "f>1", "f(f($0,b))>1",
            "f(a)>1");
        due("19 no argument", x.fits(0), 1);
        due("19 one argument", x.fits(1), 2);
        due("19 two arguments", x.fits(2), 2);
        due("19 the name alone", x.fits(3), 1);
        due("19 deep", x.fits(4), 1);
        due("19 whole names", x.fits(5), 1);
        due("19 nothing was changed", x.rewritings() + Check.text(x), "0f();f(a);f(a,b);f;F(a);ff(a);f(f(a,b));1;");
        x = Check.with("g(f(a),b);g(f,b);", "g(f,$0)>1", "g(f($1),$0)>1");
        due("19 a name is not a call", x.fits(0), 1);
        due("19 a call is not a name", x.fits(1), 1);
        x = Check.with("f(a", "$0>1");
        due("19 opaque", x.fits(0), 0);
        x = Check.with("f(a(b),a);f(a,a(b));f(a(b),a(c));f(a,b);f(1,01);f(a(),a( ));", "f($0,$0)>1");
        due("19 the same hole, other tokens", x.fits(0), 1);
        x = Check.with("f(a,g(b,a));f(a,g(a,b));f(a,g(b,b));", "f($7,g($3,$7))>1");
        due("19 two holes", x.fits(0), 1);
    }

    private static void promise20Distance() {
        RecipeRewriter x = Check.with("a;b;", "a>c", "b>b");
        due("20 loaded", x.distance(), 0);
        x.run(1);
        due("20 one replaced", x.distance(), 2);
        Check.type(x, "zzz");
        due("20 not of the buffer", x.distance(), 2);
        x = Check.with("f(a,b);", "f($0,$1)>f($1,$0)");
        x.run(1);
        due("20 turned", x.distance(), 4);
        x.run(1);
        due("20 and back", x.distance(), 0);
        x = Check.with("a;", "a>" + "b".repeat(58));
        x.run(1);
        due("20 much", x.distance(), 59);
    }

    private static void promise21Step() {
        RecipeRewriter x = Check.with("ab;", "ab>ba");
        x.run(1);
        due("21 DELETE before INSERT", Check.patch(x), "-a=b+a=;");
        due("21 keep", x.step(1), 1098);
        due("21 delete", x.step(0), 2097);
        due("21 insert", x.step(2), 3097);
        due("21 behind", x.step(4), -1);
        for (int i : OUTSIDE) {
            due("21 step(" + i + ")", x.step(i), -1);
        }
        x = Check.with("a;", "a>b");
        x.run(1);
        due("21 replaced", Check.patch(x), "-a+b=;");
        x = Check.with("aba;", "aba>a");
        x.run(1);
        due("21 KEEP first", Check.patch(x), "=a-b-a=;");
        x = Check.with("a;", "a>aba");
        x.run(1);
        due("21 KEEP first of the program's", Check.patch(x), "=a+b+a=;");
        x = Check.with("abcd;", "abcd>cdab");
        x.run(1);
        due("21 DELETE first of equals", Check.patch(x), "-a-b=c=d+a+b=;");
        due("21 as long as both", x.step(7), -1);
        Check.load(x, "\n~");
        due("21 after a load", Check.patch(x), "=\n=~");
    }
}
