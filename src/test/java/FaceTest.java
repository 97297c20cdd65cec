import java.io.IOException;
import java.lang.reflect.Constructor;
import java.lang.reflect.Method;
import java.lang.reflect.Modifier;
import java.nio.file.Files;
import java.nio.file.Path;
import java.util.Arrays;
import java.util.Set;
import java.util.TreeSet;

/** The public face: just these members, with these types, under the headings that the document tells. */
final class FaceTest {
    /** As the document writes them, in its order; a line that begins with ---- is a heading. */
    private static final String[] FACE = {
        "---- children",
        "int child(int work, int conduct, int hand, int voice)",
        "int of(int child, int what)",
        "int set(int child, int what, int v)",
        "---- lines",
        "int line(int kind, int trait, int low, int high, int words)",
        "int lineOf(int line, int what)",
        "int as(int line, int kind)",
        "int turn(int line, int kind)",
        "int fits(int line, int child)",
        "int all(int child)",
        "---- the writer",
        "int writer(int what, int v)",
        "int report(int child)",
        "int rest(int n)",
        "int tear(int set)",
        "int put(int child, int line, boolean is)",
        "int years(int n)",
        "int now(int what)",
        "---- what reports say",
        "int whose(int child)",
        "int bits(int child)",
        "int alike(int child)",
        "int swaps()",
        "int plainest()",
        "int wrong(int child)",
        "---- plans",
        "int plan(int digits, int n)",
        "int order(int set, int what)",
        "int heap(int set)",
        "int look(int child, int n)",
        "int whom(int n)",
        "int lean(int child)",
        "---- the text",
        "int feed(int bytes, int n)",
        "int wipe()",
        "int text()",
        "---- sheets",
        "int sheet(int s, int bits, int n)",
        "long write(int s, int i, long v)",
        "int copy(int s, int from, int t, int to, int n)",
        "int lays(int s)",
        "int read(int s, int child)",
        "---- images",
        "int image()",
        "int undo()",
        "int burn()",
        "int count(int what)",
        "int status(int which)",
    };

    public static void main(String[] args) throws IOException {
        methods();
        theClassItself();
        headings();
        Check.end();
    }

    private static void methods() {
        Set<String> due = new TreeSet<>();
        for (String line : FACE) {
            if (!line.startsWith("----")) {
                // the names of the parameters are not in the compiled class
                due.add(line.replaceAll("(int|long|boolean) \\w+(?=[,)])", "$1"));
            }
        }
        Set<String> got = new TreeSet<>();
        for (Method method : FortyReports.class.getDeclaredMethods()) {
            if (Modifier.isPublic(method.getModifiers())) {
                got.add(told(method));
                Check.due(method + ": thrown by it", method.getExceptionTypes().length, 0);
            }
        }
        Check.due("calls of the document", due.size(), 41);
        if (!got.equals(due)) {
            Set<String> more = new TreeSet<>(got);
            more.removeAll(due);
            due.removeAll(got);
            Check.fail("the face: missing " + due + ", too many " + more);
        }
    }

    private static String told(Method method) {
        String types = Arrays.toString(method.getParameterTypes());
        String isStatic = Modifier.isStatic(method.getModifiers()) ? "static " : "";
        return isStatic + method.getReturnType() + " " + method.getName()
            + "(" + types.substring(1, types.length() - 1) + ")";
    }

    private static void theClassItself() {
        Class<?> face = FortyReports.class;
        int modifiers = face.getModifiers();
        if (!Modifier.isPublic(modifiers) || !Modifier.isFinal(modifiers)) {
            Check.fail("the class is public and final");
        }
        if (face.getSuperclass() != Object.class) {
            Check.fail("the class extends " + face.getSuperclass());
        }
        Check.due("interfaces", face.getInterfaces().length, 0);
        Check.due("public fields", face.getFields().length, 0);
        Constructor<?>[] made = face.getDeclaredConstructors();
        Check.due("constructors", made.length, 1);
        Check.due("parameters of the constructor", made[0].getParameterCount(), 0);
        if (!Modifier.isPublic(made[0].getModifiers())) {
            Check.fail("the constructor is public");
        }
    }

    /** In the source they stand in the document's order, each heading ahead of its calls. */
    private static void headings() throws IOException {
        String source = Files.readString(Path.of("src/main/java/FortyReports.java"));
        int at = source.indexOf("public FortyReports()");
        for (String line : FACE) {
            String text = line.startsWith("----") ? "    // " + line + "\n" : "    public " + line + " {\n";
            int next = source.indexOf(text, Math.max(0, at));
            if (at < 0 || next < 0) {
                Check.fail("not in its place: " + line);
                return;
            }
            at = next;
        }
    }
}
