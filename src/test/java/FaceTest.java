import java.io.IOException;
import java.lang.reflect.Field;
import java.lang.reflect.Method;
import java.lang.reflect.Modifier;
import java.nio.file.Files;
import java.nio.file.Path;
import java.util.Set;
import java.util.TreeSet;
import java.util.regex.Matcher;
import java.util.regex.Pattern;

/** The public face, and the rules of the language that can be seen from outside or in the source. */
public final class FaceTest {
    private static final Set<String> FACE = Set.of("boolean type(int)", "void clear()", "int buffered()", "int load()",
        "int rule()", "int rules()", "int run(int)", "int cycles()", "int rewritings()", "int length()", "int at(int)",
        "int mark(int)", "int statements()", "int kind(int)", "int expressions()", "int start(int)", "int end(int)",
        "int fits(int)", "int distance()", "int step(int)");

    private FaceTest() {
    }

    public static void main(String[] args) throws IOException {
        Class<?> face = RecipeRewriter.class;
        Check.due("final and public", face.getModifiers(), Modifier.PUBLIC | Modifier.FINAL);
        Check.due("constructors", face.getDeclaredConstructors().length, 1);
        Check.due("public constructors", face.getConstructors().length, 1);
        Check.due("public methods", publicMethods(face), new TreeSet<>(FACE));
        checkMembers(face, true);
        for (Class<?> inside : face.getDeclaredClasses()) {
            Check.due("static " + inside, Modifier.isStatic(inside.getModifiers()), true);
            checkMembers(inside, false);
        }
        checkSource(Files.readString(Path.of("src/main/java/RecipeRewriter.java")));
        Check.finish();
    }

    private static Set<String> publicMethods(Class<?> face) {
        Set<String> found = new TreeSet<>();
        for (Method method : face.getDeclaredMethods()) {
            if (!Modifier.isPrivate(method.getModifiers())) {
                String taken = method.getParameterCount() == 0 ? "" : method.getParameterTypes()[0].getName();
                found.add(method.getReturnType() + " " + method.getName() + "(" + taken + ")");
            }
        }
        return found;
    }

    private static void checkMembers(Class<?> owner, boolean isFace) {
        for (Field field : owner.getDeclaredFields()) {
            Check.due("private " + field, Modifier.isPrivate(field.getModifiers()), true);
            if (Modifier.isStatic(field.getModifiers())) {
                Check.due("final " + field, Modifier.isFinal(field.getModifiers()), true);
            }
        }
        for (Method method : owner.getDeclaredMethods()) {
            Check.due("parameters of " + method, method.getParameterCount() <= 7, true);
            if (!isFace) {
                boolean taken = FACE.stream().anyMatch(m -> m.contains(" " + method.getName() + "("));
                Check.due("a name of the face at " + method, taken, false);
            }
        }
    }

    private static void checkSource(String source) {
        String code = source.replaceAll("(?s)/\\*.*?\\*/", "").replaceAll("//[^\n]*", "");
        Matcher banned = Pattern.compile("\\b(import|package|throw|throws|try|catch|synchronized|assert|var|protected)\\b|->|::|@")
            .matcher(code);
        Check.due("what the language leaves out", banned.find() ? banned.group() : "", "");
        Check.due("no array or object made outside of constructors", madeOutsideOfConstructors(code), "");
    }

    /** The room holds all calls of a run: what a call makes would be counted for each one. */
    private static String madeOutsideOfConstructors(String code) {
        StringBuilder found = new StringBuilder();
        String constructor = "";
        for (String line : code.split("\n")) {
            Matcher head = Pattern.compile("^ +(?:public |private )?([A-Z]\\w*)\\(.*\\{$").matcher(line);
            if (head.matches()) {
                constructor = line.substring(0, line.length() - line.stripLeading().length()) + "}";
            } else if (line.equals(constructor)) {
                constructor = "";
            } else if (line.matches(".*\\bnew\\b.*") && constructor.isEmpty()) {
                found.append(line.strip());
            }
        }
        return found.toString();
    }
}
