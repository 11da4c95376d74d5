import java.util.ArrayList;
import java.util.List;
import java.util.NoSuchElementException;
import java.util.Random;

/**
 * Runs of drawn calls on the class and on the model: every answer, and after some of the calls the whole row, must be the same. No
 * object is asked more than 512 times.
 */
public final class ModelTest {
    private static final String SIGNS = "whafiqx0123456789+-*/<>=()()whwh";
    private static final String[] RULES = {"w+h", "a", "-a", "0-h*q", "x*10+f", "i", "(w<h)*100-a", "q=1", "h/q", "--h", "9-i",
        "((((w))))", "w<h<a", "1234", "(", "w+", "((((("};

    // What one act and one question ask at most: two texts of 80 signs, and rows behind their calls.
    private static final int DEAREST = 120;

    private final Random random;
    private final Used real = new Used();
    private final Model model = new Model();
    private final List<String> calls = new ArrayList<>();

    private ModelTest(long seed) {
        random = new Random(seed);
    }

    private interface Call {
        long on();
    }

    private static long answer(Call call) {
        try {
            return call.on();
        } catch (NoSuchElementException e) {
            return Long.MIN_VALUE;
        }
    }

    /** Whether both answer the same, and, mostly not looked at, tell the same row. */
    private boolean same(String name, Call one, Call other) {
        long got = answer(one);
        long due = answer(other);
        calls.add(name + " = " + got);
        if (got != due) {
            calls.add("   due is " + due);
            return false;
        }
        return random.nextInt(4) > 0 || sameRow();
    }

    private boolean sameRow() {
        for (int i = -1; i <= model.row.size(); i++) {
            int k = i;
            long g = answer(() -> real.row(k));
            long d = answer(() -> model.row(k));
            if (g != d) {
                calls.add("   row(" + i + ") = " + g + ", due is " + d);
                return false;
            }
        }
        return true;
    }

    private int owner() {
        return random.nextInt(60) == 0 ? (random.nextBoolean() ? -1 : 8) : random.nextInt(8);
    }

    /** Mostly places that lie together, so that owners meet. */
    private int place() {
        switch (random.nextInt(12)) {
            case 0:
                return random.nextInt(85);
            case 1:
                return 0;
            case 2:
                return 1 + random.nextInt(2);
            case 3:
            case 4:
                return 5 + random.nextInt(2);
            case 5:
                return random.nextInt(20) == 0 ? (random.nextBoolean() ? -1 : 85) : 21;
            default:
                return 21 + random.nextInt(8);
        }
    }

    private int mode() {
        return random.nextInt(40) == 0 ? random.nextInt(2) * 7 : 1 + random.nextInt(6);
    }

    private boolean say(String text) {
        int full = (text.length() + 3) / 4 * 4;
        for (int p = 0; p < full; p += 4) {
            int v = 0;
            for (int i = p; i < p + 4; i++) {
                v = v << 8 | (i < text.length() ? text.charAt(i) : 0);
            }
            int word = v;
            if (real.sign(word) != model.sign(word)) {
                calls.add("sign(" + v + ") differs");
                return false;
            }
            calls.add("sign(" + v + ")");
        }
        int n = text.length();
        return same("end(" + n + ")", () -> real.end(n) ? 1 : 0, () -> model.end(n) ? 1 : 0);
    }

    private String ruleText() {
        if (random.nextInt(3) > 0) {
            return RULES[random.nextInt(RULES.length)];
        }
        StringBuilder text = new StringBuilder();
        int n = random.nextInt(48);
        for (int i = 0; i < n; i++) {
            if (random.nextInt(30) == 0) {
                text.append((char) random.nextInt(256));
            } else if (i % 2 == 0 && random.nextInt(8) > 0) {
                text.append("whafiqx".charAt(random.nextInt(7)));
            } else if (i % 2 == 1 && random.nextInt(8) > 0) {
                text.append("+-*/".charAt(random.nextInt(4)));
            } else {
                text.append(SIGNS.charAt(random.nextInt(SIGNS.length())));
            }
        }
        return text.toString();
    }

    private String dayText() {
        StringBuilder text = new StringBuilder();
        int n = random.nextInt(14);
        for (int i = 0; i < n; i++) {
            int o = random.nextInt(random.nextInt(12) == 0 ? 10 : 8);
            String p = String.format("%02d", Math.max(0, place()));
            String[] acts = {"b" + o, "w" + o + (1 + random.nextInt(9)), "l" + o + p + (1 + random.nextInt(6)),
                "l" + o + p + (1 + random.nextInt(6)), "u" + o + p, "e" + o, "g" + o + "0" + random.nextInt(7), "f",
                "v" + (2 + random.nextInt(4))};
            text.append(acts[random.nextInt(acts.length)]);
        }
        if (random.nextInt(10) == 0 && text.length() > 0) {
            char any = (char) random.nextInt(256);
            text.setCharAt(random.nextInt(text.length()), random.nextBoolean() ? any : "bwluegfv09 ".charAt(random.nextInt(11)));
        }
        return text.length() > 80 ? text.substring(0, random.nextBoolean() ? 80 : 78) : text.toString();
    }

    private boolean act() {
        int o = owner();
        int p = place();
        int m = mode();
        int k = random.nextInt(12) == 0 ? random.nextInt(12) : 1 + random.nextInt(9);
        switch (random.nextInt(16)) {
            case 0:
            case 1:
                return same("begins(" + o + ")", () -> real.begins(o), () -> model.begins(o));
            case 2:
                return same("works(" + o + ", " + k + ")", () -> real.works(o, k), () -> model.works(o, k));
            case 3:
                return same("unlocks(" + o + ", " + p + ")", () -> real.unlocks(o, p), () -> model.unlocks(o, p));
            case 4:
                return random.nextInt(3) > 0
                    || same("ends(" + o + ")", () -> real.ends(o), () -> model.ends(o));
            case 5:
                return same("gathers(" + o + ", " + p + ")", () -> real.gathers(o, p), () -> model.gathers(o, p));
            case 6:
                int v = random.nextInt(7);
                return same("bulk(" + v + ")", () -> real.bulk(v), () -> model.bulk(v));
            case 7:
                return random.nextInt(3) > 0 || same("fells()", () -> real.fells(), () -> model.fells());
            case 8:
                return random.nextInt(2) > 0
                    || say(dayText()) && same("day()", () -> real.day(), () -> model.day());
            case 9:
                return random.nextInt(2) > 0 || same("undo()", () -> real.undo(), () -> model.undo());
            default:
                return same("locks(" + o + ", " + p + ", " + m + ")", () -> real.locks(o, p, m), () -> model.locks(o, p, m));
        }
    }

    private boolean ask() {
        int o = owner();
        int p = place();
        int m = mode();
        int k = random.nextInt(13) - 1;
        switch (random.nextInt(32)) {
            case 0:
                return same("modes(" + k + ", " + m + ")", () -> real.modes(k, m), () -> model.modes(k, m));
            case 1:
                String[] names = {"", "IS", "IX", "S", "SIX", "U", "X", "SI", "x", "ISX"};
                return say(names[random.nextInt(names.length)]) && same("named()", () -> real.named(), () -> model.named());
            case 2:
            case 3:
                return same("owner(" + o + ", " + k + ")", () -> real.owner(o, k), () -> model.owner(o, k));
            case 4:
                return same("held(" + o + ", " + p + ")", () -> real.held(o, p), () -> model.held(o, p));
            case 5:
                return same("holders(" + p + ")", () -> real.holders(p), () -> model.holders(p));
            case 6:
                return same("queue(" + p + ")", () -> real.queue(p), () -> model.queue(p));
            case 7:
                return same("waits(" + o + ")", () -> real.waits(o), () -> model.waits(o));
            case 8:
                return same("covers(" + o + ", " + p + ")", () -> real.covers(o, p), () -> model.covers(o, p));
            case 9:
                return same("may(" + o + ", " + p + ", " + m + ")", () -> real.may(o, p, m), () -> model.may(o, p, m));
            case 10:
                int t = random.nextInt(6);
                return same("free(" + o + ", " + t + ", " + m + ")", () -> real.free(o, t, m), () -> model.free(o, t, m));
            case 11:
                return same("behind(" + o + ")", () -> real.behind(o), () -> model.behind(o));
            case 12:
                return same("stops(" + o + ")", () -> real.stops(o), () -> model.stops(o));
            case 13:
                return same("rings()", () -> real.rings(), () -> model.rings());
            case 14:
                return same("ring(" + o + ")", () -> real.ring(o), () -> model.ring(o));
            case 15:
                return same("victim()", () -> real.victim(), () -> model.victim());
            case 16:
                return same("frees(" + o + ")", () -> real.frees(o), () -> model.frees(o));
            case 17:
                return same("drains()", () -> real.drains(), () -> model.drains());
            case 18:
                return same("saves(" + o + ", " + p + ")", () -> real.saves(o, p), () -> model.saves(o, p));
            case 19:
                return same("holds(" + o + ", " + p + ")", () -> real.holds(o, p), () -> model.holds(o, p));
            case 20:
                int q = owner();
                return same("common(" + o + ", " + q + ")", () -> real.common(o, q), () -> model.common(o, q));
            case 21:
                return same("queues()", () -> real.queues(), () -> model.queues());
            case 22:
                return same("sum()", () -> real.sum(), () -> model.sum());
            case 23:
                return say(ruleText()) && same("law()", () -> real.law(), () -> model.law());
            case 24:
                int seed = random.nextInt();
                int n = random.nextInt(42);
                return same("years(" + seed + ", " + n + ")", () -> real.years(seed, n), () -> model.years(seed, n));
            case 25:
                int i = random.nextInt(5) - 1;
                return same("keep(" + i + ")", () -> real.keep(i) ? 1 : 0, () -> model.keep(i) ? 1 : 0);
            case 26:
                int j = random.nextInt(5) - 1;
                return random.nextInt(4) > 0 || same("again(" + j + ")", () -> real.again(j) ? 1 : 0, () -> model.again(j) ? 1 : 0);
            case 27:
                return say(ruleText()) && same("rule()", () -> real.rule(), () -> model.rule());
            default:
                return same("count(" + k + ")", () -> real.count(k), () -> model.count(k));
        }
    }

    private boolean run() {
        while (real.left() >= DEAREST) {
            if (!act() || !ask()) {
                return false;
            }
        }
        return same("sum()", () -> real.sum(), () -> model.sum()) && sameRow();
    }

    public static void main(String[] args) {
        int runs = args.length > 0 ? Integer.parseInt(args[0]) : 800;
        for (int seed = 1; seed <= runs; seed++) {
            ModelTest test = new ModelTest(seed);
            if (!test.run()) {
                System.out.println("run of seed " + seed + " differs from the model:");
                for (String call : test.calls) {
                    System.out.println("  " + call);
                }
                System.exit(1);
            }
        }
        System.out.println(runs + " drawn runs are as the model's");
    }
}
