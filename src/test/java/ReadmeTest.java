import java.io.IOException;
import java.lang.reflect.InvocationTargetException;
import java.lang.reflect.Method;
import java.lang.reflect.Modifier;
import java.nio.file.Files;
import java.nio.file.Path;
import java.util.ArrayList;
import java.util.List;

/** The examples of README.md: each line answers what stands behind it, and each group of calls has its own. */
public final class ReadmeTest {
    private static final String[][] GROUPS = {
        {"The program", "push", "pop", "make", "set", "get", "put", "swap", "hash", "pin", "unpin", "take"},
        {"The collector", "minor", "full", "start", "step", "finish", "tenure"},
        {"What is asked", "at", "field", "ofObject", "many", "isDirty", "queue", "meanSize"},
        {"What would be", "isReachable", "wouldFree", "held", "addressFor", "digest"},
    };

    private ReadmeTest() { }

    public static void main(String[] args) throws IOException {
        List<String> lines = Files.readAllLines(Path.of("README.md"));
        int calls = 0;
        for (String[] group : GROUPS) {
            Check.part("README.md, " + group[0]);
            List<String> example = exampleOf(lines, group[0]);
            run(example);
            for (int n = 1; n < group.length; n++) {
                Check.due("an example of " + group[n], has(example, "heap." + group[n] + "("), true);
                calls++;
            }
        }
        Check.part("README.md");
        Check.due("calls in the groups", calls, publicMethods());
        Check.end();
    }

    private static int publicMethods() {
        int found = 0;
        for (Method method : Tenuredale.class.getDeclaredMethods()) {
            found += Modifier.isPublic(method.getModifiers()) ? 1 : 0;
        }
        return found;
    }

    private static boolean has(List<String> example, String begin) {
        for (String line : example) {
            if (line.startsWith(begin)) {
                return true;
            }
        }
        return false;
    }

    private static List<String> exampleOf(List<String> lines, String heading) {
        List<String> found = new ArrayList<>();
        boolean isInGroup = false;
        boolean isInside = false;
        for (String line : lines) {
            if (line.startsWith("#")) {
                isInGroup = line.equals("### " + heading);
            } else if (line.startsWith("```")) {
                isInside = line.equals("```java");
            } else if (isInGroup && isInside) {
                found.add(line);
            }
        }
        return found;
    }

    private static void run(List<String> example) {
        Check.due("it begins with a new heap",
            !example.isEmpty() && example.get(0).equals("Tenuredale heap = new Tenuredale();"), true);
        Tenuredale heap = new Tenuredale();
        for (int n = 1; n < example.size(); n++) {
            String line = example.get(n);
            int open = line.indexOf('(');
            int close = line.indexOf(");");
            int told = line.indexOf("// ");
            boolean isCall = line.startsWith("heap.") && open > 0 && close > open && told > close;
            Check.due("a call and its answer: " + line, isCall, true);
            if (isCall) {
                String want = line.substring(told + 3).split(":")[0];
                String got = answer(heap, line.substring(5, open), line.substring(open + 1, close));
                Check.due(line + " (" + got + ")", got.equals(want), true);
            }
        }
    }

    private static String answer(Tenuredale heap, String name, String arguments) {
        String[] told = arguments.isEmpty() ? new String[0] : arguments.split(", ");
        for (Method method : Tenuredale.class.getMethods()) {
            if (method.getName().equals(name) && method.getParameterCount() == told.length) {
                return answer(heap, method, told);
            }
        }
        return "no such call";
    }

    private static String answer(Tenuredale heap, Method method, String[] told) {
        Object[] values = new Object[told.length];
        for (int n = 0; n < told.length; n++) {
            boolean isFlag = method.getParameterTypes()[n] == boolean.class;
            values[n] = isFlag ? (Object) Boolean.valueOf(told[n]) : (Object) Integer.valueOf(told[n]);
        }
        try {
            return String.valueOf(method.invoke(heap, values));
        } catch (InvocationTargetException e) {
            return e.getCause().getClass().getSimpleName();
        } catch (IllegalAccessException e) {
            return "no such call";
        }
    }
}
