import java.io.IOException;
import java.lang.reflect.Field;
import java.lang.reflect.Method;
import java.lang.reflect.Modifier;
import java.nio.file.Files;
import java.nio.file.Path;
import java.util.Set;
import java.util.TreeSet;

/** The public face of the document, and those rules of LANGUAGE.md that can be seen from the source. */
public final class FaceTest {
    private static final Set<String> METHODS = new TreeSet<>(Set.of("int feed(int, int, int, int, int)", "boolean end(int)",
        "int valley()", "int fault(int)", "int has(int)", "int letter(int, int)", "int column(int, int)",
        "int cell(int, int, int)", "long eats(int, int)", "int lord(int, int)", "int kept(int, int)", "int later(int, int)",
        "int sums(int, int)", "int straight()", "int works(int, int, int, int)", "int rest(int)", "int barge()", "int cuts()",
        "int dream(int)", "int see()", "int ran(int)", "int tells(int, int)", "int plant(int, int)", "boolean offer(int, int)",
        "boolean cut(int)", "int seasons(int)", "int chance(int)", "boolean undo()", "boolean seed(int)", "long ask()",
        "int image()", "int octet(int)", "boolean on()", "int status(int)"));

    public static void main(String[] args) throws IOException {
        face();
        source();
        Check.finish();
    }

    private static String told(Method method) {
        StringBuilder types = new StringBuilder();
        for (Class<?> type : method.getParameterTypes()) {
            types.append(types.length() == 0 ? "" : ", ").append(type.getName());
        }
        return method.getReturnType().getName() + " " + method.getName() + "(" + types + ")";
    }

    private static void face() {
        Class<?> type = BentRiver.class;
        Check.due("public and final", type.getModifiers(), Modifier.PUBLIC | Modifier.FINAL);
        Check.due("constructors", type.getDeclaredConstructors().length, 1);
        Check.due("its constructor", Modifier.isPublic(type.getDeclaredConstructors()[0].getModifiers()), true);
        Set<String> seen = new TreeSet<>();
        Set<String> names = new TreeSet<>();
        for (Method method : type.getDeclaredMethods()) {
            if (!Modifier.isPrivate(method.getModifiers())) {
                seen.add(told(method));
                names.add(method.getName());
                Check.due(told(method) + " public", method.getModifiers(), Modifier.PUBLIC);
            }
        }
        Check.due("the methods of the document, not " + seen, seen.equals(METHODS), true);
        for (Method method : type.getDeclaredMethods()) {
            Check.due("private " + method.getName(),
                Modifier.isPrivate(method.getModifiers()) && names.contains(method.getName()), false);
        }
        for (Field field : type.getDeclaredFields()) {
            boolean constant = field.getName().equals("NONE") || field.getName().equals("NOTHING");
            Check.due("field " + field.getName(), Modifier.isPrivate(field.getModifiers()), !constant);
            Check.due("static " + field.getName(), Modifier.isStatic(field.getModifiers())
                && !Modifier.isFinal(field.getModifiers()), false);
        }
        for (Class<?> inner : type.getDeclaredClasses()) {
            Check.due("class " + inner.getName(), Modifier.isStatic(inner.getModifiers())
                && !Modifier.isPublic(inner.getModifiers()) && !Modifier.isProtected(inner.getModifiers()), true);
        }
        Check.due("classes", type.getDeclaredClasses().length <= 12, true);
        Check.due("NONE", BentRiver.NONE, -1);
        Check.due("NOTHING", BentRiver.NOTHING, -1000000000000000L);
    }

    private static void source() throws IOException {
        String source = Files.readString(Path.of("src/main/java/BentRiver.java"));
        String code = source.replaceAll("(?s)/\\*.*?\\*/", "").replaceAll("//[^\n]*", "");
        for (String word : new String[] {"throw", "throws", "try", "catch", "synchronized", "assert", "package", "import",
            "double", "float", "Object", "Override"}) {
            Check.due("the word " + word, code.matches("(?s).*\\b" + word + "\\b.*"), false);
        }
        Check.due("lambdas", code.contains("->"), false);
        Check.due("method references", code.contains("::"), false);
        Check.due("static blocks", code.matches("(?s).*\\bstatic\\s*\\{.*"), false);
        Check.due("signs beyond 127", source.chars().anyMatch(sign -> sign > 126), false);
        int started = -1;
        String[] lines = source.split("\n");
        for (int i = 0; i < lines.length; i++) {
            if (lines[i].matches("    (    )?\\S.*\\) \\{") && !lines[i].contains(" class ")) {
                started = i;
            } else if (lines[i].matches("    (    )?\\}") && started >= 0) {
                Check.due("the method at line " + (started + 1) + " is short", i - started <= 60, true);
                started = -1;
            }
        }
    }
}
