import java.lang.reflect.Method;
import java.nio.file.Files;
import java.nio.file.Path;
import java.util.List;
import java.util.Set;
import java.util.TreeSet;
import java.util.regex.Matcher;
import java.util.regex.Pattern;

/** What README.md tells of answers: each line of its examples is called, each row of its tables is tried. */
public final class ReadmeTest {
    private static final Pattern CALL =
            Pattern.compile("town\\.(\\w+)\\(([^)]*|'.'[^)]*)\\); +// (-?\\d+|[A-Z]+)(: .*)?");
    private static final Pattern ROW = Pattern.compile("\\| `([A-Z]+)` \\| (-\\d) \\| [^|]* \\| ([^|]*) \\|");
    private static final Pattern NAME = Pattern.compile("`(\\w+)`");
    private static final int[] TRIED = {Integer.MIN_VALUE, -2, -1, 0, 1, 3, 6, 10, 99, 999, 1000, Integer.MAX_VALUE};

    private final Due due = new Due();
    private final Set<String> called = new TreeSet<>();
    private EvenPurse town;

    public static void main(String[] args) throws Exception {
        ReadmeTest test = new ReadmeTest();
        List<String> lines = Files.readAllLines(Path.of("README.md"));
        test.examples(lines);
        test.tables(lines);
        test.due.end();
    }

    private void examples(List<String> lines) throws Exception {
        boolean inside = false;
        for (String line : lines) {
            if (line.startsWith("```")) {
                inside = line.equals("```java");
            } else if (inside && line.equals("EvenPurse town = new EvenPurse();")) {
                town = new EvenPurse();
            } else if (inside) {
                example(line);
            }
        }
        due.due("calls that an example shows " + called, called.size(), 26);
    }

    private void example(String line) throws Exception {
        Matcher call = CALL.matcher(line);
        if (!call.matches()) {
            due.due("an example that can be read: " + line, 0, 1);
            return;
        }
        called.add(call.group(1));
        String answer = call.group(3);
        int want = Character.isLetter(answer.charAt(0)) ? constant(answer) : Integer.parseInt(answer);
        due.due(line, ask(town, method(call.group(1)), arguments(call.group(2))), want);
    }

    private static int constant(String name) throws Exception {
        return EvenPurse.class.getField(name).getInt(null);
    }

    private static Method method(String name) {
        for (Method method : EvenPurse.class.getDeclaredMethods()) {
            if (method.getName().equals(name)) {
                return method;
            }
        }
        throw new IllegalArgumentException("there is no call " + name);
    }

    private static Object[] arguments(String text) {
        if (text.isEmpty()) {
            return new Object[0];
        }
        String[] parts = text.split(", ");
        Object[] arguments = new Object[parts.length];
        for (int i = 0; i < parts.length; i++) {
            arguments[i] = parts[i].startsWith("'") ? (int) parts[i].charAt(1) : Integer.parseInt(parts[i]);
        }
        return arguments;
    }

    private static int ask(EvenPurse x, Method method, Object[] arguments) throws Exception {
        return (Integer) method.invoke(x, arguments);
    }

    /** The numbers are those of the constants, and just the calls that a row names answer so. */
    private void tables(List<String> lines) throws Exception {
        int rows = 0;
        for (String line : lines) {
            Matcher row = ROW.matcher(line);
            if (row.matches()) {
                rows++;
                int number = Integer.parseInt(row.group(2));
                due.due("the number of " + row.group(1), number, constant(row.group(1)));
                due.due("calls that answer " + row.group(1) + ": " + named(row) + ", seen " + answering(number),
                        named(row).equals(answering(number)) ? 1 : 0, 1);
            }
        }
        due.due("rows", rows, 7);
    }

    private static Set<String> named(Matcher row) {
        Set<String> names = new TreeSet<>();
        if (row.group(3).startsWith("all calls with arguments but")) {
            for (Method method : EvenPurse.class.getDeclaredMethods()) {
                if (method.getModifiers() % 2 == 1 && method.getParameterCount() > 0) {
                    names.add(method.getName());
                }
            }
            names.removeAll(inside(row.group(3)));
        } else {
            names.addAll(inside(row.group(3)));
        }
        return names;
    }

    private static Set<String> inside(String text) {
        Set<String> names = new TreeSet<>();
        Matcher name = NAME.matcher(text);
        while (name.find()) {
            names.add(name.group(1));
        }
        return names;
    }

    /** Which calls answer this number, of all that are tried on towns in several states. */
    private static Set<String> answering(int number) throws Exception {
        Set<String> names = new TreeSet<>();
        for (Method method : EvenPurse.class.getDeclaredMethods()) {
            // told answers -1 for a purse that there is not: the page says that this is no refusal.
            boolean asked = method.getModifiers() % 2 == 1 && !(number == -1 && method.getName().equals("told"));
            for (int state = 0; state < 3 && asked; state++) {
                if (answers(method, state, number)) {
                    names.add(method.getName());
                }
            }
        }
        return names;
    }

    private static boolean answers(Method method, int state, int number) throws Exception {
        int size = method.getParameterCount();
        int combinations = 1;
        // Only thing takes more than three, and three are enough to see how it is refused.
        int varied = Math.min(size, 3);
        for (int i = 0; i < varied; i++) {
            combinations *= TRIED.length;
        }
        for (int combination = 0; combination < combinations; combination++) {
            Object[] arguments = new Object[size];
            int left = combination;
            for (int i = 0; i < size; i++) {
                arguments[i] = i < varied ? TRIED[left % TRIED.length] : 0;
                left /= TRIED.length;
            }
            int answer = ask(made(state), method, arguments);
            if (answer == number) {
                return true;
            }
        }
        return false;
    }

    /** New; with a fault on a full pad, six sights, two purses that can not pay; with sums that never come out. */
    private static EvenPurse made(int state) {
        EvenPurse x = new EvenPurse();
        if (state == 1) {
            x.thing(0, 7, 1, 1, 0);
            for (int n = 0; n < 40; n++) {
                x.say('b');
            }
            for (int n = 0; n < 6; n++) {
                x.seen(0, 9, 1);
            }
            x.purse(0, 1);
            x.purse(1, 1);
        } else if (state == 2) {
            x.thing(0, 1, 0, 1, 0);
            x.say('a');
        }
        return x;
    }
}
