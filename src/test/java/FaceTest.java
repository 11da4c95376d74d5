import java.io.IOException;
import java.lang.reflect.Constructor;
import java.lang.reflect.Field;
import java.lang.reflect.InvocationTargetException;
import java.lang.reflect.Method;
import java.lang.reflect.Modifier;
import java.nio.file.Files;
import java.nio.file.Path;
import java.util.Arrays;
import java.util.List;
import java.util.NoSuchElementException;
import java.util.Random;
import java.util.TreeSet;

/** The face is the document's and no more; no call throws what the document does not name; the source keeps to its rules. */
public final class FaceTest {
    private static final String FACE = "int sign(int); boolean end(int); int rule(); int modes(int,int); int named();"
        + " int owner(int,int); int held(int,int); int begins(int); int works(int,int); int locks(int,int,int); int unlocks(int,int);"
        + " int ends(int); int gathers(int,int); int bulk(int); int fells(); int day(); int undo(); int holders(int); int queue(int);"
        + " int waits(int); int covers(int,int); int may(int,int,int); int free(int,int,int); int behind(int); int stops(int);"
        + " int rings(); int ring(int); int victim(); int frees(int); int drains(); int saves(int,int); int holds(int,int);"
        + " int common(int,int); int queues(); int sum(); int law(); int years(int,int); boolean keep(int); boolean again(int);"
        + " int count(int); long row(int)";
    private static final List<String> MAY_THROW = Arrays.asList("owner", "held", "row");
    private static final int[] EDGES = {Integer.MIN_VALUE, Integer.MIN_VALUE + 1, -86, -2, -1, 0, 1, 2, 3, 4, 5, 6, 7, 8, 9, 10, 20, 21, 22, 40,
        41, 84, 85, 86, 255, 256, 1 << 30, Integer.MAX_VALUE - 1, Integer.MAX_VALUE};
    private static final String SIGNS = "whafiqx0123456789+-*/<>=()blueegfv";

    private static int wrong = 0;

    private static void wrong(String what) {
        wrong++;
        System.out.println(what);
    }

    private static String told(Method m) {
        StringBuilder text = new StringBuilder(m.getReturnType().getSimpleName() + " " + m.getName() + "(");
        for (int i = 0; i < m.getParameterCount(); i++) {
            text.append(i > 0 ? "," : "").append(m.getParameterTypes()[i].getSimpleName());
        }
        return text + ")";
    }

    private static void face() {
        TreeSet<String> due = new TreeSet<>(Arrays.asList(FACE.split("; ")));
        TreeSet<String> got = new TreeSet<>();
        TreeSet<String> names = new TreeSet<>();
        for (Method m : LockLadder.class.getDeclaredMethods()) {
            if (Modifier.isPublic(m.getModifiers())) {
                got.add(told(m));
                names.add(m.getName());
                boolean throwing = Arrays.asList(m.getExceptionTypes()).contains(NoSuchElementException.class);
                if (throwing != MAY_THROW.contains(m.getName()) || Modifier.isStatic(m.getModifiers())) {
                    wrong("not as in the document: " + m);
                }
            } else if (!Modifier.isPrivate(m.getModifiers())) {
                wrong("neither public nor private: " + m);
            }
        }
        if (!due.equals(got)) {
            wrong("the face is " + got + ", due is " + due);
        }
        for (Method m : LockLadder.class.getDeclaredMethods()) {
            if (Modifier.isPrivate(m.getModifiers()) && names.contains(m.getName())) {
                wrong("a private method bears a public one's name: " + m);
            }
        }
        for (Field f : LockLadder.class.getDeclaredFields()) {
            boolean shown = f.getName().equals("NONE") && Modifier.isPublic(f.getModifiers()) && Modifier.isFinal(f.getModifiers());
            if (!shown && !Modifier.isPrivate(f.getModifiers())) {
                wrong("a field that is not private: " + f);
            }
        }
        Constructor<?>[] made = LockLadder.class.getDeclaredConstructors();
        if (made.length != 1 || !Modifier.isPublic(made[0].getModifiers()) || made[0].getParameterCount() != 0) {
            wrong("not the document's constructor");
        }
        if (!Modifier.isFinal(LockLadder.class.getModifiers())) {
            wrong("the class is not final");
        }
    }

    /** Edges and drawn numbers as arguments in states that such calls make. */
    private static void noCallThrows() throws IllegalAccessException {
        Method[] all = LockLadder.class.getDeclaredMethods();
        Arrays.sort(all, (a, b) -> told(a).compareTo(told(b)));
        Random random = new Random(42);
        for (int run = 0; run < 200; run++) {
            LockLadder x = new LockLadder();
            for (int i = 0; i < 512; i++) {
                Method m = all[random.nextInt(all.length)];
                if (!Modifier.isPublic(m.getModifiers())) {
                    continue;
                }
                Object[] args = new Object[m.getParameterCount()];
                for (int k = 0; k < args.length; k++) {
                    args[k] = argument(random, m.getName());
                }
                try {
                    m.invoke(x, args);
                } catch (InvocationTargetException e) {
                    boolean fine = e.getCause() instanceof NoSuchElementException && MAY_THROW.contains(m.getName());
                    if (!fine) {
                        wrong(m.getName() + Arrays.toString(args) + " throws " + e.getCause());
                    }
                }
            }
        }
    }

    private static int argument(Random random, String name) {
        if (name.equals("sign")) {
            if (random.nextInt(4) == 0) {
                return random.nextInt();
            }
            int v = 0;
            for (int i = 0; i < 4; i++) {
                v = v << 8 | SIGNS.charAt(random.nextInt(SIGNS.length()));
            }
            return v;
        }
        int way = random.nextInt(4);
        return way == 0 ? EDGES[random.nextInt(EDGES.length)] : way == 1 ? random.nextInt(85) : random.nextInt(8);
    }

    private static void source() throws IOException {
        List<String> lines = Files.readAllLines(Path.of("src/main/java/LockLadder.java"));
        String[] never = {"->", "::", "try", "catch", "finally", "synchronized", "assert", "System.out", "instanceof", "Exact", "\"\"\"", "package "};
        int begun = 0;
        for (int i = 0; i < lines.size(); i++) {
            String line = lines.get(i).replaceAll("//.*|/\\*.*", "");
            for (String word : never) {
                if (line.contains(word)) {
                    wrong("line " + (i + 1) + " has " + word);
                }
            }
            if (line.startsWith("import ") && !line.equals("import java.util.NoSuchElementException;")) {
                wrong("line " + (i + 1) + " imports another class");
            }
            for (int c = 0; c < lines.get(i).length(); c++) {
                if (lines.get(i).charAt(c) > 126) {
                    wrong("line " + (i + 1) + " has a sign above 126");
                }
            }
            if (line.matches(" {4,8}[a-zA-Z].*\\) (throws \\w+ )?\\{") && !line.matches(" +(if|for|while|switch) .*")) {
                begun = i;
            }
            if (line.matches(" {4,8}\\}") && i - begun > 60) {
                wrong("the method at line " + (begun + 1) + " is long");
            }
            if (line.matches(" {4,8}\\}")) {
                begun = i;
            }
        }
    }

    public static void main(String[] args) throws IllegalAccessException, IOException {
        face();
        noCallThrows();
        source();
        System.out.println(wrong == 0 ? "the face is as told" : wrong + " things are not as told");
        if (wrong != 0) {
            System.exit(1);
        }
    }
}
