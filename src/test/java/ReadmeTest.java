import java.io.IOException;
import java.lang.reflect.Method;
import java.lang.reflect.Modifier;
import java.nio.file.Files;
import java.nio.file.Path;

/** What README.md tells: its example answers as it says, and every call of the face is told. */
public final class ReadmeTest {
    private ReadmeTest() {
    }

    public static void main(String[] args) throws IOException {
        String readme = Files.readString(Path.of("README.md"));
        checkExample(readme);
        checkCalls(readme);
        Check.due("how to run the tests", readme.contains("    .ci/run\n"), true);
        Check.finish();
    }

    private static void checkExample(String readme) {
        RecipeRewriter x = new RecipeRewriter();
        Check.type(x, told(readme, "old($0)>new($0,$0)"));
        answer(readme, "x.rule()", x.rule());
        Check.type(x, told(readme, "old( a ); # kept"));
        answer(readme, "x.load()", x.load());
        answer(readme, "x.fits(0)", x.fits(0));
        answer(readme, "x.run(9)", x.run(9));
        answer(readme, "x.length()", x.length());
        Check.due("the program", Check.text(x), told(readme, "new(a,a); # kept"));
        answer(readme, "x.mark(0)", x.mark(0));
        answer(readme, "x.mark(4)", x.mark(4));
        answer(readme, "x.distance()", x.distance());
        answer(readme, "x.step(0)", x.step(0));
    }

    private static String told(String readme, String text) {
        Check.due("README.md tells " + text, readme.contains(text), true);
        return text;
    }

    /** The answer that README.md tells stands behind the // on the line of the call. */
    private static void answer(String readme, String call, int got) {
        int line = readme.indexOf("\n" + call + ";");
        int told = line < 0 ? -1 : readme.indexOf("// ", line);
        Check.due("README.md tells " + call, told >= 0, true);
        if (told >= 0) {
            Check.due(call, Integer.toString(got), readme.substring(told + 3).split("[,;]")[0]);
        }
    }

    private static void checkCalls(String readme) {
        for (Method method : RecipeRewriter.class.getDeclaredMethods()) {
            if (Modifier.isPublic(method.getModifiers())) {
                Check.due("README.md tells " + method.getName(), readme.contains("`" + method.getName() + "("), true);
            }
        }
    }
}
