/** What the document says first, and its terms: a test of each sentence that names an edge. */
public final class TermsTest extends Edges {
    private static final int[] ALL = {IS, IX, S, SIX, U, X};

    public static void main(String[] args) {
        readDocument();
        calls();
        places();
        modes();
        owners();
        queues();
        steps();
        locking();
        serving();
        bulk();
        gathering();
        waiting();
        texts();
        expressions();
        things();
        going();
        goingInTurn();
        finish();
    }

    private static void calls() {
        edge(TERMS, "An object is used for at most 512 calls after it has been made; what later calls answer is free.", () -> {
            for (int i = 1; i <= 255; i++) {
                is("begins", x.begins(7), i);
                is("ends", x.ends(7), 0);
            }
            is("the 511th", x.begins(7), 256);
            is("the 512th", x.locks(7, 84, X), 1);
            is("calls left", x.left(), 0);
        });
    }

    /** Owner 0 holds IS at the place alone: so it holds something there and at all that lies above. */
    private static void liesIn(int place, long... path) {
        x.begins(0);
        gets(0, place, IS);
        is("holds of " + place, x.holds(0, 0), path.length);
        row(path);
        x.ends(0);
    }

    private static void places() {
        edge(TERMS, "PLACES 0 .. 84:", () -> {
            x.begins(0);
            held(0, 0, 0);
            held(0, 84, 0);
            is("behind the last", x.held(0, 85), THROWS);
            is("ahead of the first", x.held(0, -1), THROWS);
            is("the first", x.locks(0, 0, IS), 1);
            is("the last", x.locks(0, 84, IS), 1);
            is("behind the last", x.locks(0, 85, IS), NONE);
            is("ahead of the first", x.locks(0, -1, IS), NONE);
        });
        edge(TERMS, "TABLES 1 .. 4;", () -> {
            liesIn(1, 0, 1);
            liesIn(4, 0, 4);
            liesIn(5, 0, 1, 5);
            is("none behind the fourth", x.free(0, 5, IS), NONE);
        });
        edge(TERMS, "the PAGES of TABLE t: 5 + 4 * (t - 1) and the three behind it (5 .. 20);", () -> {
            for (int t = 1; t <= 4; t++) {
                for (int i = 0; i < 4; i++) {
                    int page = 5 + 4 * (t - 1) + i;
                    liesIn(page, 0, t, page);
                }
            }
        });
        edge(TERMS, "the ROWS of PAGE g: 21 + 4 * (g - 5) and the three behind it (21 .. 84).", () -> {
            for (int g = 5; g <= 20; g++) {
                anew();
                for (int i = 0; i < 4; i++) {
                    int row = 21 + 4 * (g - 5) + i;
                    liesIn(row, 0, 1 + (g - 5) / 4, g, row);
                }
            }
        });
        edge(TERMS, "Each lies in the one of which it is (PARENT); THE BASE in none.", () -> {
            liesIn(0, 0);
            x.begins(0);
            gets(0, 0, X);
            is("BELOW none", x.covers(0, 0), X);
            row(85);
        });
        edge(TERMS, "What lies in it, and what lies in these, is BELOW a PLACE.", () -> {
            begun(1);
            gets(0, 36, IS);
            is("BELOW THE BASE", x.saves(0, 0), 3);
            is("BELOW its TABLE", x.saves(0, 1), 2);
            is("BELOW its PAGE", x.saves(0, 8), 1);
            is("not BELOW the PAGE behind it", x.saves(0, 9), -2);
            is("not BELOW the TABLE behind it", x.saves(0, 2), -2);
            x.ends(0);
            x.begins(0);
            gets(0, 37, IS);
            is("not BELOW the PAGE ahead of it", x.saves(0, 8), -2);
            is("not BELOW the TABLE ahead of it", x.saves(0, 1), -2);
            is("BELOW its PAGE", x.saves(0, 9), 1);
            x.ends(0);
            x.begins(0);
            gets(0, 20, IS);
            is("not BELOW itself", x.saves(0, 20), -2);
            is("BELOW its TABLE", x.saves(0, 4), 1);
        });
    }

    private static void modes() {
        edge(TERMS, "0 with all;", () -> {
            for (int m = 0; m <= X; m++) {
                is("0 and " + m, x.modes(0, m), 1);
                is(m + " and 0", x.modes(m, 0), 1);
            }
        });
        edge(TERMS, "IS with IS, IX, S, SIX, U; IX with IS, IX; S with IS, S, U; SIX with IS; U with IS, S;", () -> {
            int[][] with = {{}, {IS, IX, S, SIX, U}, {IS, IX}, {IS, S, U}, {IS}, {IS, S}};
            for (int a = IS; a <= U; a++) {
                int bits = 0;
                for (int b = IS; b <= X; b++) {
                    bits |= x.modes(a, b) << b;
                }
                int due = 0;
                for (int b : with[a]) {
                    due |= 1 << b;
                }
                is("all that go with " + a, bits, due);
            }
        });
        edge(TERMS, "X with none.", () -> {
            for (int m : ALL) {
                is("X and " + m, x.modes(X, m), 0);
                is(m + " and X", x.modes(m, X), 0);
            }
        });
        edge(TERMS, "A mode is AS STRONG as itself and 0;", () -> {
            for (int m = 0; m <= X; m++) {
                x.modes(m, m);
                row(m, 1);
                x.modes(m, 0);
                row(m, 1);
                if (m > 0) {
                    x.modes(0, m);
                    row(m, 0);
                }
            }
        });
        edge(TERMS, "IX as IS; S as IS; SIX as IX, S, IS; U as S, IS;", () -> {
            int[][] than = {{}, {}, {IS}, {IS}, {IX, S, IS}, {S, IS}};
            for (int a = IS; a <= U; a++) {
                int due = 1 << a;
                for (int b : than[a]) {
                    due |= 1 << b;
                }
                int bits = 0;
                for (int b = IS; b <= X; b++) {
                    x.modes(a, b);
                    bits |= (int) x.row(1) << b;
                }
                is("all that " + a + " is AS STRONG as", bits, due);
            }
        });
        edge(TERMS, "X as all.", () -> {
            for (int m = 0; m <= X; m++) {
                x.modes(X, m);
                row(X, 1);
            }
        });
        edge(TERMS, "BOTH of two modes: the weakest that is as strong as each", () -> {
            boolean[][] strong = new boolean[7][7];
            int[][] both = new int[7][7];
            for (int a = 0; a <= X; a++) {
                for (int b = 0; b <= X; b++) {
                    x.modes(a, b);
                    both[a][b] = (int) x.row(0);
                    strong[a][b] = x.row(1) == 1;
                }
            }
            for (int a = 0; a <= X; a++) {
                for (int b = 0; b <= X; b++) {
                    for (int m = 0; m <= X; m++) {
                        boolean each = strong[m][a] && strong[m][b];
                        is(m + " is as strong as " + a + " and " + b, strong[m][both[a][b]], each);
                    }
                }
            }
        });
        edge(TERMS, "the weakest that is as strong as each (IX and S: SIX; IX or SIX and U: X).", () -> {
            int[] one = {IX, S, IX, U, SIX, U, S, IS, SIX, 0};
            int[] other = {S, IX, U, IX, U, SIX, U, S, IX, U};
            int[] due = {SIX, SIX, X, X, X, X, U, S, SIX, U};
            for (int i = 0; i < due.length; i++) {
                x.modes(one[i], other[i]);
                is("BOTH of " + one[i] + " and " + other[i], x.row(0), due[i]);
            }
        });
    }

    private static void owners() {
        edge(TERMS, "OWNERS 0 .. 7:", () -> {
            is("the last", x.begins(7), 1);
            is("the first", x.begins(0), 2);
            is("behind the last", x.begins(8), NONE);
            is("ahead of the first", x.begins(-1), NONE);
        });
        edge(TERMS, "each is away (at first), runs, or waits;", () -> {
            begun(2);
            gets(0, 0, X);
            stuck(1, 0, S, 0);
            is("it runs", stands(0), 1);
            is("it waits", stands(1), 2);
            for (int o = 2; o < 8; o++) {
                is("away", stands(o), 0);
            }
        });
        edge(TERMS, "AGE (0 away; else how many had begun, itself, too, when it did),", () -> {
            is("at first", x.owner(3, 1), 0);
            x.begins(5);
            is("itself, too", x.owner(5, 1), 1);
            x.begins(3);
            x.ends(5);
            is("away", x.owner(5, 1), 0);
            x.begins(5);
            is("those, too, who are away", x.owner(5, 1), 3);
            is("it stays", x.owner(3, 1), 2);
        });
        edge(TERMS, "WORK 0 .. 99,", () -> {
            begun(1);
            for (int i = 0; i < 10; i++) {
                x.works(0, 9);
            }
            x.works(0, 8);
            is("98", x.owner(0, 2), 98);
            is("99", x.works(0, 1), 99);
            is("no more", x.works(0, 1), 99);
            is("no more", x.owner(0, 2), 99);
            is("0", x.owner(1, 2), 0);
        });
        edge(TERMS, "FALLS 0 .. 99 (how often it was felled).", () -> {
            begun(1);
            gets(0, 21, X);
            is("at first", x.owner(1, 3), 0);
            for (int i = 0; i < 98; i++) {
                fallOfOne(i);
            }
            is("98", x.owner(1, 3), 98);
            fallOfOne(98);
            is("99", x.owner(1, 3), 99);
            fallOfOne(99);
            is("no more", x.owner(1, 3), 99);
        });
        edge(TERMS, "An owner holds a mode at each PLACE (at first 0).", () -> {
            for (int o = 0; o < 8; o++) {
                anew();
                for (int p = 0; p <= 84; p++) {
                    held(o, p, 0);
                }
            }
        });
    }

    private static void queues() {
        edge(TERMS, "first those of owners who hold something there (CHANGES, in the order in which they came), then the others (COMERS,"
            + " likewise).", () -> {
            begun(7);
            gets(0, 1, IX);
            gets(3, 1, IS);
            gets(2, 1, IS);
            stuck(6, 1, S, 1);
            stuck(3, 1, S, 1);
            stuck(1, 1, S, 1);
            stuck(2, 1, U, 1);
            stuck(4, 1, IS, 1);
            is("queue", x.queue(1), 5);
            row(3, 2, 6, 1, 4);
        });
    }

    private static void steps() {
        edge(TERMS, "it wants w, BOTH of m and what it holds there.", () -> {
            begun(2);
            gets(0, 1, IX);
            gets(1, 1, IX);
            stuck(1, 1, S, 1);
            x.waits(1);
            row(SIX, 0, 1, S);
        });
        edge(TERMS, "If it holds w, it is done.", () -> {
            begun(2);
            gets(0, 1, S);
            gets(1, 1, IS);
            stuck(1, 1, IX, 1);
            gets(0, 1, S);
            gets(0, 1, IS);
            is("it holds it as ahead", x.held(0, 1), S);
            is("nobody more waits", x.queue(1), 1);
        });
        edge(TERMS, "Else, if it holds something there: it is granted, if no CHANGE is in the QUEUE and w goes together with all that others"
            + " hold there.", () -> {
            begun(3);
            gets(0, 1, IS);
            gets(1, 1, S);
            stuck(2, 1, IX, 1);
            gets(0, 1, S);
            anew();
            begun(3);
            gets(0, 1, IS);
            gets(1, 1, IS);
            gets(2, 1, IX);
            stuck(1, 1, S, 1);
            stuck(0, 1, IX, 1);
            anew();
            begun(2);
            gets(0, 1, S);
            gets(1, 1, S);
            stuck(0, 1, IX, 1);
            for (int o = 0; o < 8; o++) {
                changes(o, (o + 1) % 8, (o + 2) % 8);
            }
        });
        edge(TERMS, "w goes together with all that others hold there.", () -> {
            begun(1);
            gets(0, 1, S);
            gets(0, 1, IX);
            held(0, 1, SIX);
            gets(0, 1, U);
            held(0, 1, X);
        });
        edge(TERMS, "If it holds nothing: if the QUEUE is empty and w goes together with all that others hold.", () -> {
            begun(3);
            gets(0, 1, S);
            gets(1, 1, S);
            stuck(2, 1, IX, 1);
            anew();
            begun(3);
            gets(0, 1, S);
            stuck(1, 1, X, 1);
            stuck(2, 1, S, 1);
            anew();
            begun(3);
            gets(0, 1, S);
            gets(1, 1, IS);
            stuck(1, 1, IX, 1);
            stuck(2, 1, IS, 1);
            for (int o = 0; o < 8; o++) {
                comers(o, (o + 1) % 8, (o + 2) % 8);
            }
        });
        edge(TERMS, "Granted: it holds w, the STEP is done.", () -> {
            begun(1);
            gets(0, 84, U);
            held(0, 84, U);
            gets(0, 84, S);
            held(0, 84, U);
            gets(0, 84, IX);
            held(0, 84, X);
        });
        edge(TERMS, "Else its REQUEST for w comes into the QUEUE, and it waits.", () -> {
            begun(2);
            gets(0, 1, X);
            stuck(1, 1, IX, 1);
            is("it waits", stands(1), 2);
            held(1, 1, 0);
            is("queue", x.queue(1), 1);
            row(1);
        });
    }

    /** Whoever they are: a COMER does not stop a CHANGE, another CHANGE does. */
    private static void changes(int one, int other, int third) {
        anew();
        begun(8);
        gets(one, 84, IS);
        gets(other, 84, S);
        stuck(third, 84, X, 84);
        gets(one, 84, S);
        anew();
        begun(8);
        gets(one, 84, IS);
        gets(other, 84, IS);
        gets(third, 84, IX);
        stuck(other, 84, S, 84);
        stuck(one, 84, IX, 84);
    }

    /** Whoever they are: one who holds nothing stands behind another one's REQUEST, and behind a mode that does not go with its own. */
    private static void comers(int one, int other, int third) {
        anew();
        begun(8);
        gets(other, 84, S);
        stuck(third, 84, X, 84);
        stuck(one, 84, S, 84);
        is("ends", x.ends(other), 4);
        held(third, 84, X);
        held(one, 84, 0);
        is("ends", x.ends(third), 4);
        held(one, 84, S);
    }

    private static void locking() {
        edge(TERMS, "if the owner holds X at a PLACE that it is BELOW;", () -> {
            begun(1);
            gets(0, 5, X);
            for (int m : ALL) {
                gets(0, 24, m);
                row(85, 0);
                held(0, 24, 0);
            }
            gets(0, 25, IS);
            held(0, 25, IS);
            gets(0, 0, X);
            gets(0, 2, X);
            held(0, 2, 0);
            gets(0, 84, X);
            held(0, 84, 0);
            anew();
            begun(1);
            gets(0, 21, S);
            gets(0, 22, X);
            x.bulk(2);
            is("not BELOW itself", x.locks(0, 22, S), 1);
            row(85, 1);
        });
        edge(TERMS, "or S, SIX or U at one, m being IS or S: it is COVERED, and nothing more is done.", () -> {
            for (int above : new int[] {S, SIX, U}) {
                for (int m : ALL) {
                    anew();
                    begun(1);
                    gets(0, 1, above);
                    gets(0, 21, m);
                    held(0, 21, m == IS || m == S ? 0 : m);
                    held(0, 5, m == IS || m == S ? 0 : IX);
                }
            }
            for (int above : new int[] {IS, IX}) {
                anew();
                begun(1);
                gets(0, 1, above);
                gets(0, 21, S);
                held(0, 21, S);
            }
            anew();
            begun(1);
            gets(0, 21, S);
            gets(0, 22, S);
            gets(0, 5, S);
            x.bulk(2);
            gets(0, 22, S);
            row(85, 0);
            held(0, 22, S);
        });
        edge(TERMS, "at each PLACE that it is BELOW, from THE BASE on, for IS (m is IS or S) or IX (else); then at it for m.", () -> {
            for (int m : ALL) {
                int above = m == IS || m == S ? IS : IX;
                anew();
                begun(1);
                gets(0, 84, m);
                held(0, 0, above);
                held(0, 4, above);
                held(0, 20, above);
                held(0, 84, m);
                gets(0, 1, m);
                held(0, 1, m);
            }
            anew();
            begun(1);
            gets(0, 0, SIX);
            held(0, 0, SIX);
            is("it alone", x.owner(0, 4), 1);
        });
        edge(TERMS, "The first that is not done ends it: the owner waits;", () -> {
            for (int at : new int[] {0, 1, 5, 21}) {
                anew();
                begun(2);
                gets(0, at, X);
                stuck(1, 21, X, at);
                held(1, 0, at > 0 ? IX : 0);
                held(1, 1, at > 1 ? IX : 0);
                held(1, 5, at > 5 ? IX : 0);
                held(1, 21, 0);
            }
        });
        edge(TERMS, "when its REQUEST is granted, it goes on with the STEP behind that.", () -> {
            for (int at : new int[] {0, 1, 5, 21}) {
                anew();
                begun(2);
                gets(0, at, X);
                stuck(1, 21, U, at);
                is("unlocks", x.unlocks(0, at), 1);
                held(1, 0, IX);
                held(1, 1, IX);
                held(1, 5, IX);
                held(1, 21, U);
                is("it waits no more", stands(1), 1);
                anew();
                begun(2);
                gets(0, at, X);
                stuck(1, at, U, at);
                is("unlocks", x.unlocks(0, at), 1);
                held(1, at, U);
                is("it was the last STEP", x.holds(1, at), 1);
            }
        });
    }

    private static void serving() {
        edge(TERMS, "the first REQUEST of the QUEUE is granted, if w goes together with all that others hold there (it holds w then, runs, and"
            + " the REQUEST is gone), and so on, till one can't be.", () -> {
            begun(6);
            gets(0, 21, X);
            stuck(1, 21, S, 21);
            stuck(2, 21, IS, 21);
            stuck(3, 21, IX, 21);
            stuck(4, 21, IS, 21);
            is("the first two", x.unlocks(0, 21), 2);
            held(1, 21, S);
            held(2, 21, IS);
            held(3, 21, 0);
            is("it could be, but stands behind", stands(4), 2);
            is("queue", x.queue(21), 2);
            row(3, 4);
            is("the second goes: the first in the QUEUE still can't be", x.ends(2), 4);
            row(0);
            is("all", x.unlocks(1, 21), 2);
            is("queue", x.queue(21), 0);
        });
        edge(TERMS, "if w goes together with all that others hold there", () -> {
            begun(2);
            gets(0, 1, S);
            gets(1, 1, S);
            stuck(0, 1, IX, 1);
            is("its own does not count", x.unlocks(1, 1), 1);
            held(0, 1, SIX);
        });
        edge(TERMS, "(So CHANGES go ahead of COMERS.)", () -> {
            begun(4);
            gets(0, 1, S);
            gets(1, 1, IS);
            stuck(2, 1, IX, 1);
            stuck(1, 1, X, 1);
            is("the CHANGE", x.unlocks(0, 1), 1);
            held(1, 1, X);
            is("the COMER stays", stands(2), 2);
        });
        edge(TERMS, "Then those that were granted go on with their STEPS, in this order:", () -> {
            begun(4);
            gets(0, 1, X);
            stuck(3, 21, X, 1);
            stuck(2, 21, X, 1);
            stuck(1, 21, X, 1);
            is("one runs", x.unlocks(0, 1), 1);
            held(3, 21, X);
            is("queue", x.queue(21), 2);
            row(2, 1);
            anew();
            begun(4);
            x.bulk(2);
            gets(0, 5, SIX);
            gets(1, 21, IS);
            stuck(1, 22, IX, 5);
            stuck(2, 23, IX, 5);
            is("both are granted ahead of that", x.unlocks(0, 5), 2);
            held(1, 5, IX);
            held(1, 22, IX);
            held(2, 23, IX);
        });
        edge(TERMS, "each one's going on, with all that comes of it (GATHERING, PLACES that are served, who goes on by that), is done ahead of the"
            + " next one's.", () -> {
            begun(3);
            gets(1, 21, S);
            gets(2, 25, S);
            gets(0, 1, S);
            x.bulk(2);
            stuck(1, 22, X, 1);
            stuck(2, 5, IX, 1);
            is("one of two runs", x.unlocks(0, 1), 1);
            held(1, 5, X);
            held(1, 21, 0);
            is("it comes behind the GATHERING", x.waits(2), 5);
            row(IX, 0, 5, IX);
        });
    }

    private static void bulk() {
        edge(TERMS, "BULK is 2 .. 5 (at first 5).", () -> {
            begun(1);
            is("at first", x.count(3), 5);
            for (int p = 21; p <= 24; p++) {
                gets(0, p, S);
                row(85, 0);
            }
            is("2", x.bulk(2), 15);
            is("5", x.bulk(5), 12);
            is("less", x.bulk(1), NONE);
            is("more", x.bulk(6), NONE);
        });
        edge(TERMS, "When an owner has come to the last STEP of a LOCK of a ROW (it is granted, or was held),", () -> {
            begun(2);
            x.bulk(2);
            gets(0, 21, S);
            gets(1, 22, S);
            gets(0, 22, S);
            row(85, 1);
            anew();
            begun(1);
            gets(0, 21, S);
            gets(0, 22, S);
            x.bulk(2);
            gets(0, 21, IS);
            row(85, 1);
            anew();
            begun(2);
            gets(0, 21, S);
            gets(1, 22, X);
            x.bulk(2);
            stuck(0, 22, S, 22);
            held(0, 5, IS);
            is("granted later", x.ends(1), 4);
            held(0, 5, S);
            held(0, 22, 0);
            anew();
            begun(1);
            gets(0, 21, S);
            gets(0, 22, S);
            x.bulk(2);
            gets(0, 5, IS);
            row(85, 0);
            gets(0, 1, IS);
            row(85, 0);
            held(0, 21, S);
        });
        edge(TERMS, "and holds something at BULK or more ROWS of its PAGE then, it GATHERS there, if that can be.", () -> {
            for (int v = 2; v <= 4; v++) {
                anew();
                begun(1);
                x.bulk(v);
                for (int i = 1; i <= v; i++) {
                    gets(0, 20 + i, IS);
                    row(85, i == v ? 1 : 0);
                }
                held(0, 5, S);
            }
            anew();
            begun(2);
            for (int p = 21; p <= 23; p++) {
                gets(0, p, S);
            }
            x.bulk(2);
            gets(1, 25, S);
            gets(1, 24, S);
            row(85, 0);
            gets(0, 24, S);
            row(85, 1);
            is("more than BULK", x.owner(0, 4), 3);
            anew();
            begun(2);
            x.bulk(2);
            gets(1, 5, IX);
            gets(0, 21, S);
            gets(0, 22, S);
            row(85, 0);
            held(0, 21, S);
        });
    }

    private static void gathering() {
        edge(TERMS, "the owner wants there BOTH of what it holds and S, if at all PLACES BELOW where it holds something that is IS or S; else X.",
            () -> {
            int[] due = {S, X, S, X, X, X};
            for (int i = 0; i < ALL.length; i++) {
                anew();
                begun(1);
                gets(0, 21, S);
                gets(0, 84, ALL[i]);
                is("gathers", x.gathers(0, 20), 1);
                row(due[i]);
            }
            anew();
            begun(1);
            gets(0, 21, IS);
            gets(0, 5, IX);
            is("IX and S", x.gathers(0, 5), 1);
            row(SIX);
            anew();
            begun(1);
            gets(0, 21, S);
            gets(0, 5, U);
            is("U and S", x.gathers(0, 5), 1);
            row(U);
            anew();
            begun(1);
            gets(0, 21, S);
            gets(0, 25, X);
            gets(0, 22, S);
            is("X is in another PAGE", x.gathers(0, 5), 2);
            row(S);
        });
        edge(TERMS, "if at all PLACES BELOW where it holds something that is IS or S; else X.", () -> {
            for (int place = 0; place <= 20; place++) {
                for (int p = 0; p <= 84; p++) {
                    anew();
                    begun(1);
                    gets(0, 4 * place + 1, S);
                    gets(0, p, IX);
                    is("saves(0, " + place + ")", x.saves(0, place) > 0, true);
                    row(isBelow(p, place) ? X : p == place ? SIX : S, 1);
                }
            }
        });
        edge(TERMS, "If no CHANGE is in the QUEUE of the PLACE and that goes together with all that others hold there, it holds it, and nothing"
            + " any more at PLACES BELOW;", () -> {
            begun(4);
            gets(0, 21, S);
            gets(1, 5, IS);
            gets(2, 5, S);
            stuck(1, 5, IX, 5);
            is("a CHANGE", x.gathers(0, 5), -4);
            x.ends(1);
            stuck(3, 5, IX, 5);
            is("a COMER", x.gathers(0, 5), 1);
            row(S);
            held(0, 21, 0);
            anew();
            begun(2);
            gets(0, 21, S);
            gets(1, 5, U);
            is("S goes together with U", x.gathers(0, 5), 1);
            anew();
            begun(2);
            gets(0, 21, S);
            gets(0, 5, IX);
            gets(1, 5, IX);
            is("SIX does not with IX", x.gathers(0, 5), -4);
            x.ends(1);
            gets(0, 84, X);
            is("all BELOW THE BASE", x.gathers(0, 0), 6);
            row(X);
            is("nothing else", x.owner(0, 4), 1);
        });
        edge(TERMS, "nothing any more at PLACES BELOW;", () -> {
            for (int place = 0; place <= 20; place++) {
                anew();
                x.begins(7);
                for (int p = 21; p <= 84; p++) {
                    gets(7, p, IS);
                }
                int below = place == 0 ? 84 : place <= 4 ? 20 : 4;
                is("saves " + place, x.saves(7, place), below);
                is("gathers at " + place, x.gathers(7, place), below);
                for (int p = 0; p <= 84; p++) {
                    held(7, p, p == place ? S : isBelow(p, place) ? 0 : IS);
                }
            }
        });
        edge(TERMS, "each of these where it held something is served, by its number (likewise).", () -> {
            // Owner 0 goes from rows 21 and 22: row 21 is served first, 1 goes on and gathers, so that 2 at row 22 runs by that.
            begun(4);
            gets(0, 21, X);
            gets(0, 22, IX);
            gets(1, 22, IS);
            x.bulk(2);
            stuck(2, 22, S, 22);
            stuck(1, 21, S, 21);
            is("goes", x.ends(0), 5);
            row(2);
            held(1, 5, S);
            held(1, 22, 0);
            held(2, 22, S);
        });
        edge(TERMS, "Else nothing is done.", () -> {
            begun(2);
            gets(0, 21, S);
            gets(0, 22, S);
            gets(1, 5, IX);
            String before = whole();
            is("it can't be", x.gathers(0, 5), -4);
            is("as it was", whole().equals(before), true);
        });
        edge(TERMS, "(If it holds nothing BELOW, it can't be.)", () -> {
            begun(1);
            is("nothing at all", x.gathers(0, 0), -4);
            gets(0, 5, S);
            is("something there, nothing BELOW", x.gathers(0, 5), -4);
            is("something above it", x.gathers(0, 1), 1);
            row(S);
        });
    }

    private static boolean isBelow(int place, int other) {
        for (int p = place; p > 0;) {
            p = p <= 4 ? 0 : p <= 20 ? 1 + (p - 5) / 4 : 5 + (p - 21) / 4;
            if (p == other) {
                return true;
            }
        }
        return false;
    }

    private static void waiting() {
        edge(TERMS, "An owner WAITS FOR another one, if it waits, and at that PLACE the other one holds a mode that does not go together with w, or"
            + " has a REQUEST ahead of its own.", () -> {
            begun(5);
            gets(0, 1, IS);
            gets(1, 1, IX);
            stuck(2, 1, S, 1);
            stuck(3, 1, IS, 1);
            stuck(4, 1, X, 1);
            is("it runs", x.behind(1), 0);
            is("a mode that does not go together with w", x.behind(2), 1 << 1);
            is("a REQUEST ahead of its own alone", x.behind(3), 1 << 2);
            is("all of them", x.behind(4), 15);
            anew();
            begun(3);
            gets(0, 1, S);
            gets(1, 1, S);
            stuck(0, 1, IX, 1);
            is("not for itself", x.behind(0), 1 << 1);
            stuck(1, 1, IX, 1);
            is("by what it holds alone", x.behind(0), 1 << 1);
            is("for the other", x.behind(1), 1 << 0);
            gets(2, 2, X);
            is("another PLACE", x.behind(2), 0);
        });
        edge(TERMS, "A RING: owners each of whom waits for the next, the last for the first.", () -> {
            begun(3);
            ring(0, 1);
            stuck(2, 21, S, 21);
            is("two", x.rings(), 3);
            is("it is in none", x.ring(2), -2);
            anew();
            begun(8);
            ring(0, 7);
            is("eight", x.rings(), 255);
            anew();
            begun(8);
            gets(0, 21, X);
            for (int o = 1; o < 8; o++) {
                gets(o, 21 + o, X);
                stuck(o, 20 + o, S, 20 + o);
            }
            is("one behind the other, no RING", x.rings(), 0);
        });
    }

    private static void texts() {
        edge(TERMS, "THE RULE is a text of at most 40 signs (at first none: w+h).", () -> {
            begun(1);
            x.works(0, 7);
            gets(0, 84, X);
            is("at first", x.owner(0, 5), 11);
            is("40 signs", rule(times("w+", 19) + "10"), 0);
            is("by it", x.owner(0, 5), 19 * 7 + 10);
            is("41 signs", rule(times("w+", 19) + "100"), -41);
            is("it stays", x.owner(0, 5), 19 * 7 + 10);
        });
    }

    /** What a rule tells for owner 1, who waits for 0 and holds three places, with WORK 7. */
    private static void tells(String text, int due) {
        is("rule " + text, rule(text), 0);
        is("COST by " + text, x.owner(1, 5), due);
    }

    private static void can(String text, int p) {
        is("rule " + text, rule(text), -1 - p);
        is("law " + text, lawOf(text), -100 - p);
    }

    private static int lawOf(String text) {
        return law(text);
    }

    private static void scene() {
        begun(3);
        x.works(1, 7);
        gets(0, 21, X);
        stuck(1, 21, S, 21);
    }

    private static void expressions() {
        edge(TERMS, "< > = bind least (two; 1 or 0; not one behind the other),", () -> {
            scene();
            tells("1+1<3", 1);
            tells("3<1+1", 0);
            tells("2<2", 0);
            tells("2>2", 0);
            tells("2=2", 1);
            tells("3>2", 1);
            tells("2*3=3+3", 1);
            tells("(1<2)=(3>2)", 1);
            tells("(1<2)<2", 1);
            can("1<2<3", 3);
            can("1=2>3", 3);
            can("(1<2=1)", 4);
            can("1<(2)<3", 5);
            can("<1", 0);
            can("1<", 2);
        });
        edge(TERMS, "then + - (from the left),", () -> {
            scene();
            tells("9-3-2", 4);
            tells("9-3+2", 8);
            tells("2+3*4", 14);
            can("+1", 0);
            can("1++1", 2);
        });
        edge(TERMS, "then * / (from the left; by 0: 0; cut to 0),", () -> {
            scene();
            tells("40/4/2", 5);
            tells("7/2*2", 6);
            tells("7/0", 0);
            tells("0/0", 0);
            tells("(0-7)/0", 0);
            tells("7/(w-7)+1", 1);
            tells("7/2", 3);
            tells("(0-7)/2", -3);
            tells("7/(0-2)", -3);
            tells("(0-7)/(0-2)", 3);
            tells("(0-1)/2", 0);
            can("*1", 0);
            can("1*/1", 2);
        });
        edge(TERMS, "then - ahead of a thing (any many);", () -> {
            scene();
            tells("-7", -7);
            tells("--7", 7);
            tells("2--3", 5);
            tells("2*-3", -6);
            tells("-7/2", -3);
            tells("-2*-2", 4);
            tells("-(2+3)", -5);
            tells("1<-1", 0);
            tells(times("-", 39) + "w", -7);
            tells(times("-", 38) + "w", 7);
            can("-", 1);
            can("1-", 2);
        });
        edge(TERMS, "a NUMBER of 1 to 3 digits,", () -> {
            scene();
            tells("0", 0);
            tells("9", 9);
            tells("10", 10);
            tells("999", 999);
            tells("000", 0);
            tells("007", 7);
            can("1000", 3);
            can("0000", 3);
            can("1+0000", 5);
            can("1w", 1);
            can("w1", 1);
            can("(1)1", 3);
        });
        edge(TERMS, "an EXPRESSION in ( ) (at most 4 in one another),", () -> {
            scene();
            tells("((((w))))", 7);
            tells("(((1)+((2))))", 3);
            tells("((((1))))*((((3))))", 3);
            can("(((((w)))))", 4);
            can("1+((((-(1)))))", 7);
            can("()", 1);
            can("(", 1);
            can("(1", 2);
            can("1)", 1);
            can("(1))", 3);
        });
    }

    private static void things() {
        edge(TERMS, "w WORK, h at how many PLACES it holds something, a AGE, f FALLS, i its number, q how many WAIT FOR it, x at how many PLACES it"
            + " holds X.", () -> {
            begun(1);
            gets(0, 29, S);
            x.begins(3);
            gets(3, 30, S);
            stuck(3, 29, X, 29);
            stuck(0, 30, X, 30);
            x.fells();
            x.ends(0);
            x.begins(3);
            x.begins(5);
            x.begins(6);
            x.works(3, 8);
            gets(3, 21, X);
            gets(3, 37, X);
            gets(3, 53, S);
            stuck(5, 21, S, 21);
            stuck(6, 37, S, 37);
            String[] letters = {"w", "h", "a", "f", "i", "q", "x"};
            int[] due = {8, 10, 3, 1, 3, 2, 2};
            for (int k = 0; k < due.length; k++) {
                is("rule " + letters[k], rule(letters[k]), 0);
                is("COST by " + letters[k], x.owner(3, 5), due[k]);
            }
            int[] away = {0, 0, 0, 0, 7, 0, 0};
            for (int k = 0; k < away.length; k++) {
                rule(letters[k]);
                is("COST of one who is away, by " + letters[k], x.owner(7, 5), away[k]);
            }
        });
        edge(TERMS, "As ints: COST.", () -> {
            scene();
            tells("999*999*999*999", 999 * 999 * 999 * 999);
            tells("128*256*256*256", LEAST);
            tells("128*256*256*256-1", GREATEST);
            tells("-(128*256*256*256)", LEAST);
            tells("128*256*256*256/-1", LEAST);
            tells("128*256*256*256/-1<0", 1);
            tells("64*256*256*256+64*256*256*256", LEAST);
            tells("0-128*256*256*256-1", GREATEST);
        });
    }

    private static void going() {
        edge(TERMS, "what it holds and its REQUEST are gone, it is away, AGE and WORK are 0;", () -> {
            begun(2);
            x.works(1, 5);
            gets(0, 21, X);
            gets(1, 84, X);
            stuck(1, 21, S, 21);
            is("ends", x.ends(1), 6);
            is("away", stands(1), 0);
            is("AGE", x.owner(1, 1), 0);
            is("WORK", x.owner(1, 2), 0);
            is("what it holds", x.owner(1, 4), 0);
            is("its REQUEST", x.queue(21), 0);
            is("it does not wait", x.waits(1), -2);
            is("nobody stops it", x.behind(1), 0);
        });
        edge(TERMS, "then each PLACE where it held or waited is served,", () -> {
            begun(4);
            gets(0, 21, S);
            stuck(1, 21, X, 21);
            stuck(2, 21, S, 21);
            is("where it waited", x.ends(1), 3);
            row(1);
            held(2, 21, S);
            gets(3, 84, X);
            stuck(2, 84, S, 84);
            stuck(0, 20, S, 20);
            is("where it held", x.ends(3), 4);
            row(2);
            anew();
            begun(3);
            gets(0, 1, IS);
            gets(1, 1, IX);
            stuck(0, 1, S, 1);
            stuck(2, 1, IS, 1);
            is("where it held and waited", x.ends(0), 2);
            row(1);
            for (int place : new int[] {0, 1, 4, 5, 20, 21, 84}) {
                anew();
                begun(8);
                gets(7, place, X);
                stuck(0, place, X, place);
                stuck(6, place, X, place);
                is("it held", x.ends(7) > 0, true);
                row(1);
                held(0, place, X);
                is("it held", x.ends(0) > 0, true);
                row(1);
                held(6, place, X);
            }
        });
    }

    private static void goingInTurn() {
        edge(TERMS, "by its number (with all that comes of it ahead of the next one).", () -> {
            // Owner 0 goes: table 1 is served first, so that 1 goes on and has IX at page 5 ahead of 2, who waits there for S.
            begun(3);
            gets(1, 21, IS);
            gets(0, 1, SIX);
            gets(0, 5, IX);
            stuck(2, 5, S, 5);
            stuck(1, 21, X, 1);
            is("ends", x.ends(0), 3);
            row(1);
            held(1, 21, X);
            held(1, 5, IX);
            is("it waits yet", x.waits(2), 5);
        });
    }
}
