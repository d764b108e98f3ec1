import java.io.IOException;
import java.lang.reflect.Field;
import java.lang.reflect.Method;
import java.lang.reflect.Modifier;
import java.nio.charset.StandardCharsets;
import java.nio.file.Files;
import java.nio.file.Paths;
import java.util.ArrayList;
import java.util.List;
import java.util.Set;
import java.util.TreeSet;
import java.util.regex.Matcher;
import java.util.regex.Pattern;

/** What ../shared/LANGUAGE.md rules out, as far as it can be seen from outside; run in the project's directory. */
public final class LanguageTest {
    private static final String SOURCE = "src/main/java/IndexedCompiler.java";
    private static final int MOST_CLASSES = 12;
    private static final int MOST_FIELDS = 20;
    private static final int MOST_PARAMETERS = 7;
    private static final int MOST_LINES = 60;
    private static final Set<String> IMPORTS = Set.of("java.util.Arrays", "java.util.ArrayList", "java.util.List");
    // The face names no other, and none of them is, or is above, one that the Java machine itself throws.
    private static final Set<String> EXCEPTIONS = Set.of("IllegalStateException", "IllegalArgumentException");
    private static final Set<String> FUNCTIONS = Set.of("Math.max", "Math.min", "Math.abs", "Math.floorDiv", "Math.floorMod",
        "Arrays.fill", "Arrays.copyOf", "Arrays.copyOfRange", "System.arraycopy");
    private static final String[] WORDS = {
        "package", "finally", "synchronized", "assert", "native", "hashCode", "getMessage", "Object", "Thread", "Random"
    };
    // Of a lambda, and of a method reference.
    private static final String[] SIGNS = {"->", "::"};
    private static final Bench BENCH = new Bench("LanguageTest");

    public static void main(String[] args) throws IOException {
        List<Class<?>> classes = new ArrayList<>(List.of(IndexedCompiler.class.getDeclaredClasses()));
        nestedClasses(classes);
        classes.add(IndexedCompiler.class);
        noNameOfTheFaceAgain(classes);
        for (Class<?> each : classes) {
            fields(each);
            parameters(each);
        }
        String source = withoutTexts(Files.readString(Paths.get(SOURCE), StandardCharsets.UTF_8));
        words(source);
        imports(source);
        library(source);
        exceptions(source);
        lengthOfMethods(source);
        BENCH.end();
    }

    private static void nestedClasses(List<Class<?>> nested) {
        BENCH.sentence("1, 2, 11: classes inside are private or package-visible and static; at most some twelve");
        for (Class<?> each : nested) {
            int modifiers = each.getModifiers();
            BENCH.due(each + " is static", Modifier.isStatic(modifiers), true);
            BENCH.due(each + " is seen", Modifier.isPublic(modifiers) || Modifier.isProtected(modifiers), false);
            BENCH.due(each + " has classes inside", each.getDeclaredClasses().length, 0);
        }
        BENCH.due("classes are too many", nested.size() + 1 > MOST_CLASSES, false);
    }

    private static void noNameOfTheFaceAgain(List<Class<?>> classes) {
        BENCH.sentence("1: no private method bears the name of a public one");
        Set<String> face = new TreeSet<>();
        for (Method method : IndexedCompiler.class.getDeclaredMethods()) {
            if (Modifier.isPublic(method.getModifiers())) {
                face.add(method.getName());
            }
        }
        for (Class<?> each : classes) {
            for (Method method : each.getDeclaredMethods()) {
                boolean again = !Modifier.isPublic(method.getModifiers()) && face.contains(method.getName());
                BENCH.due(each + "." + method.getName() + " bears a name of the face", again, false);
            }
        }
    }

    private static void fields(Class<?> owner) {
        BENCH.sentence("3, 5, 11: static fields are final, of numbers, texts or rows of numbers; a class has some twenty others");
        int others = 0;
        for (Field field : owner.getDeclaredFields()) {
            Class<?> type = field.getType();
            String name = owner.getSimpleName() + "." + field.getName();
            if (Modifier.isStatic(field.getModifiers())) {
                boolean plain = type == int.class || type == long.class || type == boolean.class || type == char.class
                    || type == String.class || type == int[].class || type == long[].class || type == char[].class;
                BENCH.due(name + " is final", Modifier.isFinal(field.getModifiers()), true);
                BENCH.due(name + " is plain", plain, true);
            } else {
                BENCH.due(name + " is of an allowed type", isAllowed(type), true);
                others++;
            }
        }
        BENCH.due(owner + " has too many fields", others > MOST_FIELDS, false);
    }

    private static boolean isAllowed(Class<?> type) {
        if (type.isArray() && type.getComponentType().isArray()) {
            return type.getComponentType().getComponentType().isPrimitive();
        }
        Class<?> plain = type.isArray() ? type.getComponentType() : type;
        return plain.isPrimitive() || plain == String.class || plain.getEnclosingClass() == IndexedCompiler.class;
    }

    private static void parameters(Class<?> owner) {
        BENCH.sentence("11: a method takes at most seven parameters");
        for (Method method : owner.getDeclaredMethods()) {
            BENCH.due(method + " takes too many", method.getParameterCount() > MOST_PARAMETERS, false);
        }
    }

    // ---- the text of the class

    /** Comments, texts and characters become blanks, so that only code is looked at; lines stay where they are. */
    private static String withoutTexts(String source) {
        String comment = "//[^\n]*|/\\*.*?\\*/";
        String text = "\"(\\\\.|[^\"\\\\\n])*\"|'(\\\\.|[^'\\\\\n])'";
        Matcher found = Pattern.compile(comment + "|" + text, Pattern.DOTALL).matcher(source);
        return found.replaceAll(each -> each.group().replaceAll("[^\n]", " "));
    }

    private static void words(String source) {
        BENCH.sentence("2, 6, 10, 13: what is not used");
        for (String word : WORDS) {
            BENCH.due(word + " is used", Pattern.compile("\\b" + word + "\\b").matcher(source).find(), false);
        }
        for (String sign : SIGNS) {
            BENCH.due(sign + " is used", source.contains(sign), false);
        }
    }

    private static void imports(String source) {
        BENCH.sentence("4: the library, only what stands there");
        dueAllAmong("import", Pattern.compile("\\bimport ([\\w.*]+);"), source, IMPORTS);
    }

    private static void library(String source) {
        dueAllAmong("function", Pattern.compile("\\b((?:Math|Arrays|System|Integer|Long|String)\\.\\w+)"), source, FUNCTIONS);
    }

    private static void exceptions(String source) {
        BENCH.sentence("6: which exceptions are thrown and caught");
        dueAllAmong("thrown", Pattern.compile("\\bthrow (?:new )?(\\w+)"), source, EXCEPTIONS);
        dueAllAmong("caught", Pattern.compile("\\bcatch \\((\\w+)"), source, EXCEPTIONS);
    }

    private static void dueAllAmong(String what, Pattern pattern, String source, Set<String> allowed) {
        Matcher found = pattern.matcher(source);
        while (found.find()) {
            BENCH.due(what + " " + found.group(1) + " is allowed", allowed.contains(found.group(1)), true);
        }
    }

    private static void lengthOfMethods(String source) {
        BENCH.sentence("11: methods stay short (some sixty lines)");
        String[] lines = source.split("\n");
        Pattern head = Pattern.compile("( {4}| {8})\\w[\\w\\[\\], ]+\\([^;=]*\\{\\s*");
        int methods = 0;
        for (int k = 0; k < lines.length; k++) {
            Matcher found = head.matcher(lines[k]);
            if (found.matches() && !lines[k].trim().matches("(if|for|while|switch|do|try|catch)\\b.*")) {
                int end = k;
                while (end < lines.length && !lines[end].equals(found.group(1) + "}")) {
                    end++;
                }
                BENCH.due("the method of line " + (k + 1) + " is too long", end - k + 1 > MOST_LINES, false);
                methods++;
            }
        }
        BENCH.due("methods were found", methods > 100, true);
    }
}
