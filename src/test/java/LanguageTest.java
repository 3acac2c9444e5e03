import java.io.IOException;
import java.lang.reflect.Field;
import java.lang.reflect.Method;
import java.lang.reflect.Modifier;
import java.nio.file.Files;
import java.nio.file.Path;
import java.util.ArrayList;
import java.util.List;
import java.util.Set;
import java.util.regex.Matcher;
import java.util.regex.Pattern;

/** The rules of LANGUAGE.md that can be seen in the class's text and members; FaceTest holds the face. */
public final class LanguageTest {
    private static final Path FILE = Path.of("src/main/java/PassChecker.java");
    private static final int MOST_LINES = 60;
    private static final int MOST_PARAMETERS = 7;
    private static final int MOST_CLASSES = 12;
    private static final int MOST_FIELDS = 20;

    private static final String THROWN = "IllegalStateException|IllegalArgumentException|IndexOutOfBoundsException"
            + "|ArithmeticException|UnsupportedOperationException|NoSuchElementException|RuntimeException";
    private static final Set<String> LIBRARY = Set.of("Arrays.fill", "Arrays.copyOf", "Arrays.copyOfRange",
            "System.arraycopy", "Math.min", "Math.max", "Math.abs", "Math.floorDiv", "Math.floorMod");
    private static final Set<String> TYPES = Set.of("int", "long", "boolean", "char", "short", "byte", "int[]",
            "int[][]", "boolean[]", "long[]");

    public static void main(String[] args) throws IOException {
        String whole = Files.readString(FILE);
        String bare = withoutCommentsAndTexts(whole);
        noForbiddenWords(bare);
        onlyListedLibrary(bare);
        onlyWrittenThrows(whole);
        List<Class<?>> classes = new ArrayList<>(List.of(PassChecker.class.getDeclaredClasses()));
        classes.add(PassChecker.class);
        Due.by("LANGUAGE.md 11", "the file has at most some twelve classes");
        Due.is("number of classes", classes.size() <= MOST_CLASSES, true);
        for (Class<?> type : classes) {
            fieldsKeepTheRules(type);
            methodsKeepTheRules(type);
        }
        methodsAreShort(bare);
        Due.finish();
    }

    private static String withoutCommentsAndTexts(String whole) {
        return whole.replaceAll("(?s)/\\*.*?\\*/", "").replaceAll("//[^\n]*", "").replaceAll("\"[^\"\n]*\"", "\"\"");
    }

    private static void noForbiddenWords(String bare) {
        Due.by("LANGUAGE.md 2, 6, 13", "no lambda, no method reference; no finally, synchronized, assert");
        String[] words = {"->", "::", "\\bfinally\\b", "\\bsynchronized\\b", "\\bassert\\b", "\\bcatch\\b", "\\btry\\b",
            "\\bpackage\\b", "\\bdouble\\b", "\\bfloat\\b", "\\bvar\\b", "Exact\\s*\\(", "\\bstatic\\s*\\{",
            "\\bThread\\b", "\\bRandom\\b", "\\bnanoTime\\b", "\\bcurrentTimeMillis\\b", "\\bhashCode\\b"};
        for (String word : words) {
            Due.is(word + " is used", Pattern.compile(word).matcher(bare).find(), false);
        }
    }

    private static void onlyListedLibrary(String bare) {
        Due.by("LANGUAGE.md 4", "The library: only what stands here.");
        Matcher imports = Pattern.compile("(?m)^import\\s+([^;]+);").matcher(bare);
        while (imports.find()) {
            Due.is("import", imports.group(1), "java.util.Arrays");
        }
        Matcher calls = Pattern.compile("\\b(Arrays|System|Math|Integer|Long|String|List)\\.(\\w+)").matcher(bare);
        while (calls.find()) {
            String call = calls.group(1) + "." + calls.group(2);
            boolean isImport = bare.startsWith("java.util.", calls.start() - "java.util.".length());
            Due.is(call + " is in the list", isImport || LIBRARY.contains(call), true);
        }
    }

    private static void onlyWrittenThrows(String whole) {
        Due.by("LANGUAGE.md 6", "throw new E() or throw new E(\"a written text\")");
        Matcher throwing = Pattern.compile("\\bthrow\\b[^;]*;").matcher(whole);
        while (throwing.find()) {
            boolean isWritten = throwing.group().matches("throw new (" + THROWN + ")\\((\"[^\"]*\")?\\);");
            Due.is(throwing.group() + " is so", isWritten, true);
        }
    }

    private static void fieldsKeepTheRules(Class<?> type) {
        int own = 0;
        for (Field field : type.getDeclaredFields()) {
            boolean isStatic = Modifier.isStatic(field.getModifiers());
            own += isStatic ? 0 : 1;
            String kind = field.getType().getSimpleName();
            boolean isOwnClass = field.getType().getEnclosingClass() == PassChecker.class;
            Due.by("LANGUAGE.md 5", "Static fields are final");
            Due.is(field + " is final", !isStatic || Modifier.isFinal(field.getModifiers()), true);
            Due.by("LANGUAGE.md 3", "Types");
            Due.is(field + " has a listed type", TYPES.contains(kind) || isOwnClass && !isStatic, true);
        }
        Due.by("LANGUAGE.md 11", "a class some twenty fields beside its constants");
        Due.is(type + " fields", own <= MOST_FIELDS, true);
    }

    private static void methodsKeepTheRules(Class<?> type) {
        Due.by("LANGUAGE.md 11", "A method takes at most seven parameters.");
        for (Method method : type.getDeclaredMethods()) {
            Due.is(method + " parameters", method.getParameterCount() <= MOST_PARAMETERS, true);
        }
    }

    /** A method begins at a line that opens a brace behind parameters, and ends at a brace as far in as it. */
    private static void methodsAreShort(String bare) {
        Due.by("LANGUAGE.md 11", "Methods stay short (some sixty lines)");
        Pattern head = Pattern.compile("(?m)^( {4}| {8})(?:public |private |static )*[\\w\\[\\]]+ ?\\w*\\([^)]*\\)[^;{]*\\{\n");
        Matcher found = head.matcher(bare);
        int methods = 0;
        while (found.find()) {
            methods++;
            int close = bare.indexOf("\n" + found.group(1) + "}\n", found.start());
            long lines = bare.substring(found.start(), Math.max(close, found.start())).lines().count() + 1;
            Due.is(found.group().strip() + " ends", close > 0, true);
            Due.is(found.group().strip() + " is short", lines <= MOST_LINES, true);
        }
        Due.is("methods were found", methods > 100, true);
    }
}
