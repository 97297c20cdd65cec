import java.lang.reflect.Method;
import java.lang.reflect.Modifier;
import java.util.Arrays;
import java.util.Random;

/** What the document's first lines and its terms tell of all calls: the findings, and 512 calls. */
final class FindingsTest {
    /** In an order of their own, as reflection tells them in none. */
    private static final Method[] CALLS = Arrays.stream(FortyReports.class.getDeclaredMethods())
        .filter(method -> Modifier.isPublic(method.getModifiers()))
        .sorted((one, other) -> one.getName().compareTo(other.getName()))
        .toArray(Method[]::new);

    public static void main(String[] args) {
        findingsAreNumbers();
        findingsAreBelowAllAnswers();
        the512thCall();
        aFullObjectAfterManyFindings();
        noCallThrows();
        Check.end();
    }

    private static void findingsAreNumbers() {
        FortyReports x = new FortyReports();
        Check.due("BEYOND", x.now(4), -1000000001L);
        Check.due("KIND", x.plan(0, 1), -1000000003L);
        Check.due("NONE", x.undo(), -1000000004L);
        Check.due("MISSING", x.lays(0), -1000000006L);
        Check.due("SIZE", x.sheet(0, 8, -1), -1000000007L);
        Scenes.twelveChildren(x);
        Check.due("FULL", x.child(0, 0, 0, 0), -1000000002L);
        Check.due("BEYOND in longs", x.write(4, 0, 0L), -1000000001L);
        Check.due("MISSING in longs", x.write(3, 0, 0L), -1000000006L);
        Check.due("STATE is told by none", x.status(4), 0);
        Check.due("all of them", x.status(-1), 8);
    }

    private static void findingsAreBelowAllAnswers() {
        // the least that other answers are: a worth of twice 1 - 40 - 99
        FortyReports x = new FortyReports();
        x.line(Check.COPIED, 0, 0, 0, 40);
        for (int i = 0; i < 5; i++) {
            x.years(20);
        }
        Check.due("the least worth", x.lineOf(0, 6), -276);
        Scenes.tape(x, " ".repeat(120));
        Check.due("the last fault", x.text(), -121);
        Check.due("none of them a finding", x.status(-1), 0);
    }

    private static void the512thCall() {
        FortyReports x = new FortyReports();
        for (int call = 1; call < 512; call++) {
            Check.due("call " + call, x.now(4), Check.BEYOND);
        }
        Check.due("the 512th call", x.status(-1), 511);
        FortyReports y = new FortyReports();
        Check.due("the first of 512", y.child(0, 0, 0, 0), 0);
        Check.due("the second", y.line(Check.LINE, 0, 0, 0, 1), 0);
        for (int call = 3; call < 512; call++) {
            Check.due("call " + call, y.put(0, 0, call % 2 == 1), 1);
        }
        Check.due("the 512th report", y.report(0), 1);
    }

    private static void aFullObjectAfterManyFindings() {
        FortyReports x = Twins.built(Scenes::full);
        for (int i = 0; i < 20; i++) {
            x.child(0, 0, 0, 0);
            x.line(0, 0, 0, 0, 1);
            x.feed(0, 1);
            x.order(4095, 0);
        }
        Check.due("each finding alone", x.status(1), 60);
        Check.due("SIZE", x.status(6), 20);
        Check.due("still twelve", x.count(0) + x.count(1), 24);
    }

    /** Each call with arguments of all sizes, on objects of all scenes, far past the 512th call, too. */
    private static void noCallThrows() {
        Twins.Scene[] scenes = {Scenes::none, Scenes::three, Scenes::nobody, Scenes::full};
        for (int seed = 0; seed < 40; seed++) {
            Random random = new Random(seed);
            FortyReports x = Twins.built(scenes[seed % scenes.length]);
            for (int call = 0; call < 5000; call++) {
                Method method = CALLS[random.nextInt(CALLS.length)];
                Object[] row = new Object[method.getParameterCount()];
                for (int i = 0; i < row.length; i++) {
                    row[i] = someValue(random, method.getParameterTypes()[i]);
                }
                try {
                    method.invoke(x, row);
                } catch (ReflectiveOperationException thrown) {
                    Check.fail(method.getName() + Arrays.toString(row) + ": threw " + thrown.getCause());
                }
            }
        }
    }

    private static Object someValue(Random random, Class<?> type) {
        if (type == boolean.class) {
            return random.nextBoolean();
        }
        if (type == long.class) {
            return random.nextLong() >> random.nextInt(64);
        }
        return random.nextInt(4) == 0 ? random.nextInt() >> random.nextInt(32) : random.nextInt(13);
    }
}
