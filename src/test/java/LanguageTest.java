import java.io.IOException;
import java.lang.reflect.Field;
import java.lang.reflect.Modifier;
import java.nio.file.Files;
import java.nio.file.Path;
import java.util.regex.Pattern;

/** What of ../shared/LANGUAGE.md can be seen by looking at the source and the class itself. */
public final class LanguageTest {
    public static void main(String[] args) throws IOException {
        String source = Files.readString(Path.of("src/main/java/SpoonShort.java"));
        String code = source.replaceAll("(?s)/\\*.*?\\*/", "").replaceAll("//[^\n]*", "").replaceAll("\"[^\"]*\"", "\"\"");
        words(code);
        face();
        lengths(code);
        Check.finish();
    }

    private static void words(String code) {
        String[] not = {"\\bthrow\\b", "\\bthrows\\b", "\\btry\\b", "\\bcatch\\b", "\\bsynchronized\\b", "\\bassert\\b", "::",
            "\\bpackage\\b", "\\bSystem\\.(?!arraycopy)", "\\bhashCode\\b", "\\bString toString\\b", "\\bboolean equals\\b", "Exact\\(",
            "\\bThread\\b", "\\bRandom\\b", "\\bwhile \\(true\\)", "for \\(;;\\)", "\\bprotected\\b", "\\bstatic \\{",
            "import (?!java\\.util\\.(Arrays|ArrayList|List|Iterator);)"};
        for (String word : not) {
            Check.due("in the source: " + word, Pattern.compile(word).matcher(code).find(), false);
        }
        for (String line : code.split("\n")) {
            boolean arrow = line.contains("->") && !line.trim().startsWith("case ") && !line.trim().startsWith("default ");
            Check.due("a lambda: " + line, arrow, false);
        }
    }

    private static void face() {
        for (var method : SpoonShort.class.getDeclaredMethods()) {
            boolean open = !Modifier.isPrivate(method.getModifiers());
            Check.due("a public name: " + method, Modifier.isPublic(method.getModifiers()), open);
        }
        int many = 0;
        for (var method : SpoonShort.class.getMethods()) {
            many += method.getDeclaringClass() == SpoonShort.class ? 1 : 0;
        }
        Check.due("public methods", many, 36);
        for (var field : SpoonShort.class.getDeclaredFields()) {
            Check.due("a field's modifiers: " + field, Modifier.isPrivate(field.getModifiers()), !field.getName().equals("NONE"));
            finalIfStatic(field);
        }
        names(SpoonShort.class);
        for (var inner : SpoonShort.class.getDeclaredClasses()) {
            Check.due("static: " + inner, Modifier.isStatic(inner.getModifiers()), true);
            names(inner);
            int own = 0;
            for (var field : inner.getDeclaredFields()) {
                own += Modifier.isStatic(field.getModifiers()) ? 0 : 1;
                finalIfStatic(field);
            }
            Check.due("some twenty fields: " + inner, own <= 24, true);
        }
        Check.due("some twelve classes", SpoonShort.class.getDeclaredClasses().length <= 14, true);
    }

    private static void finalIfStatic(Field field) {
        boolean open = Modifier.isStatic(field.getModifiers()) && !Modifier.isFinal(field.getModifiers());
        Check.due("a static field that may change: " + field, open, false);
    }

    /** No private method bears the name of a public one. */
    private static void names(Class<?> some) {
        for (var method : some.getDeclaredMethods()) {
            for (var open : SpoonShort.class.getMethods()) {
                boolean ours = open.getDeclaringClass() == SpoonShort.class && Modifier.isPrivate(method.getModifiers());
                Check.due("a name twice: " + method, ours && open.getName().equals(method.getName()), false);
            }
            Check.due("parameters: " + method, method.getParameterCount() <= 7, true);
        }
    }

    private static void lengths(String code) {
        int from = 0;
        int line = 0;
        for (String text : code.split("\n")) {
            line++;
            if (text.matches(" {4,8}[a-zA-Z].*\\) \\{")) {
                from = line;
            }
            if (text.matches(" {4,8}\\}") && from > 0) {
                Check.due("some sixty lines, up to " + line, line - from <= 66, true);
                from = 0;
            }
        }
    }
}
