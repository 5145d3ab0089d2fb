import java.io.IOException;
import java.lang.reflect.Field;
import java.lang.reflect.Method;
import java.lang.reflect.Modifier;
import java.nio.file.Files;
import java.nio.file.Path;
import java.util.ArrayList;
import java.util.Arrays;
import java.util.List;
import java.util.Set;
import java.util.TreeSet;
import java.util.regex.Matcher;
import java.util.regex.Pattern;

/** The public face, and those rules of ../shared/LANGUAGE.md that a program can look at. */
final class LanguageTest {
    private static final Due DUE = new Due("LanguageTest");
    private static final Path FILE = Path.of("src/main/java/TreadleKernels.java");
    private static final String[] FACE = {"put(int,int)", "tie(int,int)", "read(int)", "compose(int,int,int)",
        "turnRound(int,int)", "repeat(int,int,int)", "weave(int,int)", "dye(int,int)", "place(int,int)",
        "treadle(int,int)", "draft(int,int)", "press(int,int)", "comesTo(int,int,int)", "count(int)", "kernel(int)",
        "orbit(int,int)", "pair(int,int,int)", "ways(int)", "untilHome(int)", "bestDraft(int)", "write(long)",
        "wipe()", "fault()", "undo()", "save(int)", "restore(int)"};
    private static final String[] CONSTANTS = {"NO_SUCH", "BAD_VALUE", "BAD_TEXT", "TOO_MANY", "NOT_POSSIBLE", "NONE"};
    private static final String[] LIBRARY = {"String", "StringBuilder", "Integer", "Long", "Math", "System", "Arrays",
        "ArrayList", "List", "Iterator", "Iterable", "Comparable"};

    private static final String IMPORT = "import java\\.util\\.(Arrays|ArrayList|List|Iterator|\\*);";

    public static void main(String[] args) throws IOException {
        faceIsTheDocuments();
        constantsAreTheDocuments();
        classesInside();
        fields();
        words();
        DUE.end();
    }

    private static void faceIsTheDocuments() {
        Class<?> face = TreadleKernels.class;
        DUE.is("public and final", face.getModifiers(), Modifier.PUBLIC | Modifier.FINAL);
        DUE.is("constructors", face.getDeclaredConstructors().length, 1);
        DUE.is("public constructors of no arguments", face.getConstructors()[0].getParameterCount(), 0);
        Set<String> found = new TreeSet<>();
        for (Method method : face.getDeclaredMethods()) {
            if (Modifier.isPrivate(method.getModifiers()) || method.isSynthetic()) continue;
            boolean isPlain = method.getModifiers() == Modifier.PUBLIC && method.getReturnType() == int.class;
            found.add(signature(method) + (isPlain ? "" : " " + method));
        }
        same("methods", found, new TreeSet<>(Arrays.asList(FACE)));
    }

    private static void constantsAreTheDocuments() {
        Set<String> found = new TreeSet<>();
        for (Field field : TreadleKernels.class.getDeclaredFields()) {
            if (!Modifier.isPrivate(field.getModifiers()) && !field.isSynthetic()) found.add(field.getName());
        }
        same("constants", found, new TreeSet<>(Arrays.asList(CONSTANTS)));
        DUE.is("NO_SUCH", TreadleKernels.NO_SUCH, -1);
        DUE.is("BAD_VALUE", TreadleKernels.BAD_VALUE, -2);
        DUE.is("BAD_TEXT", TreadleKernels.BAD_TEXT, -3);
        DUE.is("TOO_MANY", TreadleKernels.TOO_MANY, -4);
        DUE.is("NOT_POSSIBLE", TreadleKernels.NOT_POSSIBLE, -5);
        DUE.is("NONE", TreadleKernels.NONE, -6);
    }

    private static void classesInside() {
        Set<String> publicNames = new TreeSet<>();
        for (String method : FACE) publicNames.add(method.substring(0, method.indexOf('(')));
        for (Class<?> inside : classes()) {
            if (inside != TreadleKernels.class) {
                int open = inside.getModifiers() & (Modifier.PUBLIC | Modifier.PROTECTED);
                DUE.is(inside + " open", open, 0);
                DUE.is(inside + " static", Modifier.isStatic(inside.getModifiers()) ? 1 : 0, 1);
            }
            for (Method method : inside.getDeclaredMethods()) {
                DUE.is(method + " a lambda", method.getName().startsWith("lambda$") ? 1 : 0, 0);
                DUE.is(method + " parameters", Math.max(7, method.getParameterCount()), 7);
                boolean isPrivate = Modifier.isPrivate(method.getModifiers());
                if (isPrivate) DUE.is(method + " named as a public one", publicNames.contains(method.getName()) ? 1 : 0, 0);
            }
        }
        DUE.is("classes", Math.max(12, classes().size()), 12);
    }

    private static void fields() {
        for (Class<?> inside : classes()) {
            int own = 0;
            for (Field field : inside.getDeclaredFields()) {
                if (!Modifier.isStatic(field.getModifiers())) own++;
                else DUE.is(field + " final", Modifier.isFinal(field.getModifiers()) ? 1 : 0, 1);
            }
            DUE.is(inside + " fields", Math.max(20, own), 20);
        }
    }

    private static void words() throws IOException {
        String code = codeOf(Files.readString(FILE));
        String[] banned = {"package", "throw", "throws", "try", "catch", "synchronized", "assert", "Object", "Exception",
            "hashCode", "native", "protected"};
        for (String word : banned) {
            DUE.is("'" + word + "' stands there", Pattern.compile("\\b" + word + "\\b").matcher(code).find() ? 1 : 0, 0);
        }
        for (String line : code.split("\n")) {
            if (line.contains("import ")) DUE.is(line, line.matches(IMPORT) ? 1 : 0, 1);
            boolean isCase = line.matches("\\s*(case|default)\\b.*");
            if (!isCase) DUE.is("an arrow in " + line, line.contains("->") || line.contains("::") ? 1 : 0, 0);
        }
        Set<String> types = new TreeSet<>(Arrays.asList(LIBRARY));
        for (Class<?> inside : classes()) types.add(inside.getSimpleName());
        Matcher type = Pattern.compile("\\b[A-Z][a-z]\\w*\\b").matcher(code);
        while (type.find()) DUE.is("the type " + type.group(), types.contains(type.group()) ? 1 : 0, 1);
        methodsAreShort(code);
    }

    private static void methodsAreShort(String code) {
        int lines = 0;
        for (String line : code.split("\n")) {
            boolean isEnd = line.matches("    (    )?}");
            lines = isEnd || line.isBlank() ? 0 : lines + 1;
            if (lines == 60) DUE.is("lines on end at " + line, lines, 59);
        }
    }

    private static String codeOf(String text) {
        return text.replaceAll("(?s)/\\*.*?\\*/", "").replaceAll("//[^\n]*", "")
            .replaceAll("'.'", "' '").replaceAll("\"[^\"\n]*\"", "\"\"");
    }

    private static List<Class<?>> classes() {
        List<Class<?>> classes = new ArrayList<>();
        classes.add(TreadleKernels.class);
        classes.addAll(Arrays.asList(TreadleKernels.class.getDeclaredClasses()));
        return classes;
    }

    private static String signature(Method method) {
        StringBuilder text = new StringBuilder(method.getName()).append('(');
        for (Class<?> type : method.getParameterTypes()) {
            if (text.charAt(text.length() - 1) != '(') text.append(',');
            text.append(type.getName());
        }
        return text.append(')').toString();
    }

    private static void same(String what, Set<String> found, Set<String> due) {
        DUE.is(what + " " + found + ", due are " + due, found.equals(due) ? 1 : 0, 1);
    }
}
