import java.io.IOException;
import java.nio.charset.StandardCharsets;
import java.nio.file.Files;
import java.nio.file.Path;
import java.util.TreeMap;

/** What tests of single sentences share: each names its sentence as the document has it, and begins with a new object. */
abstract class Edges {
    static final int NONE = -1;
    static final long THROWS = Used.THROWS;
    static final int IS = 1;
    static final int IX = 2;
    static final int S = 3;
    static final int SIX = 4;
    static final int U = 5;
    static final int X = 6;
    static final int LEAST = Integer.MIN_VALUE;
    static final int GREATEST = Integer.MAX_VALUE;
    /** The number under which sentences of the terms, and of what the document says first, are tested. */
    static final int TERMS = 0;

    static Used x;

    private static final Path DOC = Path.of("../shared/DOC.md");
    private static final TreeMap<Integer, String> PARTS = new TreeMap<>();
    private static int promise;
    private static String sentence;
    private static int sentences;
    private static int wrong;

    static void edge(int number, String words, Runnable test) {
        promise = number;
        sentence = words;
        sentences++;
        anew();
        if (!PARTS.isEmpty() && !PARTS.getOrDefault(number, "").contains(words)) {
            wrong("the document does not say that there");
        }
        try {
            test.run();
        } catch (RuntimeException e) {
            wrong("throws " + e);
        }
    }

    static void anew() {
        x = new Used();
    }

    static void wrong(String what) {
        wrong++;
        String where = promise == TERMS ? "terms" : "promise " + promise;
        System.out.println(where + ", \"" + sentence + "\": " + what);
    }

    static void is(String what, long got, long due) {
        if (got != due) {
            wrong(what + " answered " + got + ", due is " + due);
        }
    }

    static void is(String what, boolean got, boolean due) {
        is(what, got ? 1 : 0, due ? 1 : 0);
    }

    static void row(long... due) {
        is("count(8)", x.count(8), due.length);
        for (int i = 0; i < due.length; i++) {
            is("row(" + i + ")", x.row(i), due[i]);
        }
    }

    static int rule(String text) {
        x.say(text);
        return x.rule();
    }

    static int law(String text) {
        x.say(text);
        return x.law();
    }

    static int day(String text) {
        x.say(text);
        return x.day();
    }

    static int named(String text) {
        x.say(text);
        return x.named();
    }

    static String times(String text, int n) {
        StringBuilder all = new StringBuilder();
        for (int i = 0; i < n; i++) {
            all.append(text);
        }
        return all.toString();
    }

    /** Owners 0 .. n - 1 begin. */
    static void begun(int n) {
        for (int o = 0; o < n; o++) {
            is("begins(" + o + ")", x.begins(o), o + 1);
        }
    }

    /** Done, and held there. */
    static void gets(int owner, int place, int mode) {
        is("locks(" + owner + ", " + place + ", " + mode + ")", x.locks(owner, place, mode), 1);
    }

    /** It waits, there. */
    static void stuck(int owner, int place, int mode, int at) {
        is("locks(" + owner + ", " + place + ", " + mode + ")", x.locks(owner, place, mode), 0);
        is("where it waits", x.row(0), at);
    }

    static void held(int owner, int place, int mode) {
        is("held(" + owner + ", " + place + ")", x.held(owner, place), mode);
    }

    static long stands(int owner) {
        return x.owner(owner, 0);
    }

    static int sum() {
        x.sum();
        return (int) x.row(0);
    }

    /** Owners from .. to wait each for the next, the last for the first; they hold rows from 21 on. */
    static void ring(int from, int to) {
        for (int o = from; o <= to; o++) {
            gets(o, 21 + o, X);
        }
        for (int o = from; o <= to; o++) {
            int next = o == to ? from : o + 1;
            stuck(o, 21 + next, S, 21 + next);
        }
    }

    /** Owner 1 begins and is felled, while 0 holds X at row 21: five calls, so that a hundred of them are less than 512. */
    static void fallOfOne(int turn) {
        int row = 22 + turn % 50;
        x.begins(1);
        x.locks(1, row, turn < 50 ? X : S);
        x.locks(0, row, turn < 50 ? IS : X);
        x.locks(1, 21, X);
        is("fells", x.fells(), 1);
    }

    /** All that calls tell of the state, and what can be undone. */
    static String whole() {
        return picture() + " undo " + x.count(7);
    }

    /** All that calls tell of the state, but for THE TEXT, THE ROW, what can be undone and what is kept. */
    static String picture() {
        StringBuilder all = new StringBuilder();
        for (int o = 0; o < 8; o++) {
            all.append(" owner ").append(o);
            for (int what = 0; what < 4; what++) {
                all.append(' ').append(x.owner(o, what));
            }
            all.append(" holds ").append(x.holds(o, 0));
            told(all);
            int at = x.waits(o);
            if (at >= 0) {
                all.append(" waits ").append(at);
                told(all);
            }
        }
        all.append(" sum ").append(sum());
        for (int what = 2; what < 7; what++) {
            all.append(" count ").append(x.count(what));
        }
        return all.toString();
    }

    private static void told(StringBuilder all) {
        int n = x.count(8);
        for (int i = 0; i < n; i++) {
            all.append(' ').append(x.row(i));
        }
    }

    /** The document's parts by the number of their promise; nothing where it can't be found. */
    static void readDocument() {
        if (!Files.isReadable(DOC)) {
            return;
        }
        String all;
        try {
            all = Files.readString(DOC, StandardCharsets.UTF_8);
        } catch (IOException e) {
            return;
        }
        StringBuilder part = new StringBuilder();
        int number = TERMS;
        for (String line : all.split("\n")) {
            if (line.startsWith("## Promise ")) {
                PARTS.put(number, part.toString().replaceAll("\\s+", " "));
                part.setLength(0);
                number = Integer.parseInt(line.substring(11, line.indexOf(':')));
            } else if (line.startsWith("## Not promised")) {
                break;
            } else {
                part.append(line).append('\n');
            }
        }
        PARTS.put(number, part.toString().replaceAll("\\s+", " "));
    }

    static void finish() {
        System.out.println(wrong == 0 ? sentences + " sentences hold" : wrong + " answers are not as due");
        if (wrong != 0) {
            System.exit(1);
        }
    }
}
