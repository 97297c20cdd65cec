import java.io.IOException;
import java.lang.reflect.Field;
import java.lang.reflect.Method;
import java.lang.reflect.Modifier;
import java.nio.file.Files;
import java.nio.file.Path;
import java.util.Set;
import java.util.TreeSet;
import java.util.regex.Matcher;
import java.util.regex.Pattern;

/** Rules of LANGUAGE.md that can be seen from the source or from the compiled face. */
final class SourceRulesTest {
    private static final int PUBLIC_METHODS = 41;

    public static void main(String[] args) throws IOException {
        String source = Files.readString(Path.of("src/main/java/FortyReports.java"));
        String code = source.replaceAll("(?s)/\\*.*?\\*/", "").replaceAll("//[^\n]*", "");
        banned(code, "rule 6", "\\b(throw|try|catch|synchronized|assert)\\b");
        banned(code, "rule 6", "\\b(hashCode|toString)\\b");
        banned(code, "rule 4", "\\w+Exact\\b");
        banned(code, "rule 2", "->|::");
        banned(code, "rule 13", "\\b(System\\.(?!arraycopy)\\w+|Random|Thread|Math\\.random)\\b");
        banned(code, "rule 10", "\" *\\+|\\+ *\"");
        banned(code, "rule 5", "\\bstatic \\{");
        banned(code, "rule 9", "while \\(true\\)|for \\(;|for \\([^;]*;;");
        banned(code, "rule 4", "[^\\n\\x20-\\x7e]");
        banned(code, "rule 12, made by a call", "(?m)^ {8,}.*\\bnew\\b(?<!final .{1,60} = new)");
        Matcher imports = Pattern.compile("import ([^;]+);").matcher(code);
        while (imports.find()) {
            if (!imports.group(1).matches("java\\.util\\.(Arrays|ArrayList|List|Iterator)")) {
                Check.fail("rule 4: import " + imports.group(1));
            }
        }
        shortMethods(code);
        face();
        Check.end();
    }

    private static void banned(String code, String rule, String pattern) {
        Matcher found = Pattern.compile(pattern).matcher(code);
        while (found.find()) {
            Check.fail(rule + ": " + found.group());
        }
    }

    /** A method ends with the brace that stands as far in as it begins. */
    private static void shortMethods(String code) {
        Matcher method = Pattern.compile("(?m)^( {4}| {8})(?! )[^;=\\n]*\\) \\{\\n(?s:(.*?))\\n\\1\\}").matcher(code);
        int seen = 0;
        while (method.find()) {
            seen++;
            if (method.group(2).split("\n").length > 60) {
                Check.fail("rule 11: a long method: " + method.group(2).substring(0, 80));
            }
        }
        if (seen < PUBLIC_METHODS) {
            Check.fail("SourceRulesTest sees only " + seen + " methods");
        }
    }

    private static void sizes(Class<?> of) {
        int own = 0;
        for (Field field : of.getDeclaredFields()) {
            boolean isStatic = Modifier.isStatic(field.getModifiers());
            own += isStatic ? 0 : 1;
            if (isStatic && !Modifier.isFinal(field.getModifiers())) {
                Check.fail("rule 5: " + field);
            }
        }
        if (own > 20) {
            Check.fail("rule 11: " + own + " fields in " + of);
        }
    }

    private static void face() {
        Set<String> names = new TreeSet<>();
        for (Method method : FortyReports.class.getDeclaredMethods()) {
            if (Modifier.isPublic(method.getModifiers())) {
                names.add(method.getName());
            } else if (!Modifier.isPrivate(method.getModifiers())) {
                Check.fail("rule 1: " + method);
            }
        }
        Check.due("the public methods", names.size(), PUBLIC_METHODS);
        privateNames(FortyReports.class, names);
        sizes(FortyReports.class);
        if (FortyReports.class.getDeclaredClasses().length > 12) {
            Check.fail("rule 11: too many classes");
        }
        for (Class<?> inside : FortyReports.class.getDeclaredClasses()) {
            if (!Modifier.isStatic(inside.getModifiers()) || Modifier.isPublic(inside.getModifiers())) {
                Check.fail("rule 1: " + inside);
            }
            privateNames(inside, names);
            sizes(inside);
        }
        for (Field field : FortyReports.class.getDeclaredFields()) {
            if (!Modifier.isPrivate(field.getModifiers())) {
                Check.fail("rule 1: " + field);
            }
        }
    }

    private static void privateNames(Class<?> of, Set<String> names) {
        for (Method method : of.getDeclaredMethods()) {
            if (!Modifier.isPublic(method.getModifiers()) && names.contains(method.getName())) {
                Check.fail("rule 1: the name of a public one: " + method);
            }
            if (method.getParameterCount() > 7) {
                Check.fail("rule 11: " + method);
            }
        }
    }
}
