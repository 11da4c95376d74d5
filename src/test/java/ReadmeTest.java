import java.io.IOException;
import java.lang.reflect.InvocationTargetException;
import java.lang.reflect.Method;
import java.nio.charset.StandardCharsets;
import java.nio.file.Files;
import java.nio.file.Path;
import java.util.List;
import java.util.NoSuchElementException;
import java.util.TreeSet;
import java.util.regex.Matcher;
import java.util.regex.Pattern;

/** Each call that README.md shows is made, and must answer what stands behind it; and README.md names every call of the face. */
public final class ReadmeTest {
    private static final Path README = Path.of("README.md");
    private static final Path ITSELF = Path.of("src/test/java/ReadmeTest.java");
    private static final Pattern CALL = Pattern.compile("desk\\.(\\w+)\\(([-0-9, ]*)\\); +// ([-\\w]+).*");
    private static final Pattern SAYS = Pattern.compile("say\\(desk, \"(.*)\"\\);");
    private static final String MAKES = "LockLadder desk = new LockLadder();";

    private static LockLadder desk;
    private static int calls = 0;
    private static int wrong = 0;

    private static void wrong(String what) {
        wrong++;
        System.out.println("README.md: " + what);
    }

    // As README.md shows it: the test looks whether it does.
    static void say(LockLadder desk, String text) {
        desk.end(0);
        for (int p = 0; p < text.length(); p += 4) {
            int v = 0;
            for (int i = p; i < p + 4; i++) {
                v = v << 8 | (i < text.length() ? text.charAt(i) : 0);
            }
            desk.sign(v);
        }
        desk.end(text.length());
    }

    private static Method method(String name) {
        for (Method m : LockLadder.class.getMethods()) {
            if (m.getName().equals(name) && m.getDeclaringClass() == LockLadder.class) {
                return m;
            }
        }
        return null;
    }

    private static String answer(String name, String numbers) throws IllegalAccessException {
        Method m = method(name);
        String[] parts = numbers.isEmpty() ? new String[0] : numbers.split(", ");
        if (m == null || m.getParameterCount() != parts.length) {
            return "no such call";
        }
        Object[] args = new Object[parts.length];
        for (int i = 0; i < parts.length; i++) {
            args[i] = Integer.parseInt(parts[i]);
        }
        try {
            return String.valueOf(m.invoke(desk, args));
        } catch (InvocationTargetException e) {
            return e.getCause() instanceof NoSuchElementException ? "throws" : "" + e.getCause();
        }
    }

    private static void line(String line) throws IllegalAccessException {
        Matcher call = CALL.matcher(line);
        Matcher says = SAYS.matcher(line);
        if (line.equals(MAKES)) {
            desk = new LockLadder();
        } else if (says.matches()) {
            say(desk, says.group(1));
        } else if (!call.matches()) {
            wrong("not a call with its answer: " + line);
        } else {
            calls++;
            String got = answer(call.group(1), call.group(2));
            if (!got.equals(call.group(3))) {
                wrong(line + " answered " + got);
            }
        }
    }

    private static void blocks(List<String> lines) throws IllegalAccessException, IOException {
        String itself = Files.readString(ITSELF, StandardCharsets.UTF_8);
        boolean java = false;
        boolean helper = false;
        for (String line : lines) {
            if (line.startsWith("```")) {
                java = line.equals("```java");
                helper = false;
            } else if (java) {
                helper |= line.startsWith("static ");
                if (!helper) {
                    line(line);
                } else if (!itself.contains("\n    " + line + "\n")) {
                    wrong("not as this test has it: " + line);
                }
            }
        }
    }

    private static void names(List<String> lines) {
        TreeSet<String> missed = new TreeSet<>();
        for (Method m : LockLadder.class.getMethods()) {
            if (m.getDeclaringClass() == LockLadder.class) {
                missed.add(m.getName());
            }
        }
        for (String line : lines) {
            if (line.startsWith("| `")) {
                missed.removeIf(name -> line.contains("`" + name + "`"));
            }
        }
        if (!missed.isEmpty()) {
            wrong("does not name " + missed);
        }
    }

    public static void main(String[] args) throws IOException, IllegalAccessException {
        List<String> lines = Files.readAllLines(README, StandardCharsets.UTF_8);
        blocks(lines);
        names(lines);
        if (calls == 0) {
            wrong("shows no call");
        }
        System.out.println(wrong == 0 ? calls + " calls of README.md answer as told" : wrong + " lines are not as told");
        if (wrong != 0) {
            System.exit(1);
        }
    }
}
