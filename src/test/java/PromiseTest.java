/** Each promise of the document by its number: ordinary inputs, the edges that it names, and wrong inputs. */
public final class PromiseTest {
    private static final long THROWS = Used.THROWS;
    private static final int IS = 1;
    private static final int IX = 2;
    private static final int S = 3;
    private static final int SIX = 4;
    private static final int U = 5;
    private static final int X = 6;

    private static int wrong = 0;
    private static int promise = 0;
    private static Used x;

    /** A new object for the next promise. */
    private static void begin(int number) {
        promise = number;
        x = new Used();
    }

    private static void is(String what, long got, long due) {
        if (got != due) {
            wrong++;
            System.out.println("promise " + promise + ": " + what + " answered " + got + ", due is " + due);
        }
    }

    private static void is(String what, boolean got, boolean due) {
        is(what, got ? 1 : 0, due ? 1 : 0);
    }

    private static void row(long... due) {
        is("count(8)", x.count(8), due.length);
        for (int i = 0; i < due.length; i++) {
            is("row(" + i + ")", rowAt(i), due[i]);
        }
        is("row behind its end", rowAt(due.length), THROWS);
    }

    private static long rowAt(int i) {
        return x.row(i);
    }

    private static long owner(int owner, int what) {
        return x.owner(owner, what);
    }

    private static long held(int owner, int place) {
        return x.held(owner, place);
    }

    private static void say(String text) {
        for (int p = 0; p < text.length(); p += 4) {
            int v = 0;
            for (int i = p; i < p + 4; i++) {
                v = v << 8 | (i < text.length() ? text.charAt(i) : 0);
            }
            x.sign(v);
        }
        is("end of " + text, x.end(text.length()), true);
    }

    private static int rule(String text) {
        say(text);
        int answer = x.rule();
        is("signs behind rule()", x.count(9), 0);
        return answer;
    }

    private static int law(String text) {
        say(text);
        int answer = x.law();
        is("signs behind law()", x.count(9), 0);
        return answer;
    }

    private static int day(String text) {
        say(text);
        int answer = x.day();
        is("signs behind day()", x.count(9), 0);
        return answer;
    }

    private static int named(String text) {
        say(text);
        int answer = x.named();
        is("signs behind named()", x.count(9), 0);
        return answer;
    }

    private static int heldSum() {
        x.sum();
        return (int) x.row(0);
    }

    private static String times(String text, int n) {
        StringBuilder all = new StringBuilder();
        for (int i = 0; i < n; i++) {
            all.append(text);
        }
        return all.toString();
    }

    private static void newObject() {
        for (int o = 0; o < 8; o++) {
            begin(1);
            for (int what = 0; what < 5; what++) {
                is("owner", owner(o, what), 0);
            }
            for (int p = 0; p < 85; p++) {
                is("held", held(o, p), 0);
            }
        }
        int[] due = {0, 0, 0, 5, 0, 0, 0, 0, 0, 0};
        for (int what = 0; what < due.length; what++) {
            is("count", x.count(what), due[what]);
        }
        is("NONE", LockLadder.NONE, -1);
    }

    private static void sign() {
        begin(2);
        is("sign", x.sign('S' << 24 | 'I' << 16 | 'X' << 8), 4);
        x.end(3);
        is("the highest byte stands first", x.named(), SIX);
        for (int i = 1; i <= 20; i++) {
            is("sign", x.sign(-1), 4 * i);
        }
        is("more than 80", x.sign(0), -1);
        is("refused: it stays", x.count(9), 80);
        x.end(77);
        is("81 signs", x.sign(0), -1);
        is("refused: it stays", x.count(9), 77);
        x.end(76);
        is("80 signs", x.sign(0), 80);
    }

    private static void end() {
        begin(3);
        is("more than it has", x.end(1), false);
        is("none of none", x.end(0), true);
        x.sign('U' << 24);
        is("below 0", x.end(-1), false);
        is("more than it has", x.end(5), false);
        is("refused: it stays", x.count(9), 4);
        is("all", x.end(4), true);
        is("one", x.end(1), true);
        is("its first sign stays", x.named(), U);
    }

    private static void rule() {
        begin(4);
        x.begins(3);
        x.works(3, 7);
        x.locks(3, 21, X);
        is("w+h at first", owner(3, 5), 11);
        String[] texts = {"h*w-2", "-w", "--w", "-w*-h", "2+3*4", "(2+3)*4", "20/3/2", "20-3-2", "7/0", "0-7/2", "-7/2", "w<8", "w>8",
            "w=7", "1+1<3", "3<1+1", "(1<2)<2", "(1=1)=(2=2)", "i", "a", "f", "q", "x", "h", "999", "007", "((((w))))",
            "999*999*999*999", "---((2))", "2--3", "2*-3", "w*(h-(a+(i/(q-1))))"};
        int[] due = {26, -7, 7, 28, 14, 20, 3, 15, 0, -3, -3, 1, 0, 1, 1, 0, 1, 1, 3, 1, 0, 0, 1, 4, 999, 7, 7,
            999 * 999 * 999 * 999, -2, 5, -6, 7 * (4 - (1 + (3 / -1)))};
        for (int i = 0; i < texts.length; i++) {
            is(texts[i], rule(texts[i]), 0);
            is("COST by " + texts[i], owner(3, 5), due[i]);
        }
        is("least int by -1", rule("-(999*999*999)/(0-1)"), 0);
        is("an empty one: none", rule(""), 0);
        is("w+h", owner(3, 5), 11);
        String[] bad = {"z", "+w", "w+", "w)", "(w", "()", "w w", "ww", "1000", "1w", "w1", "w<", "w<h<a", "w<h=a", "(w<h)<a>1", "(((((w",
            "1+2345", "w(", "W", "-", "w*/h", "w\u00e9", "(w)(", "((w)", "(w)1", "(1)2"};
        int[] at = {0, 0, 2, 1, 2, 1, 1, 1, 3, 1, 1, 2, 3, 3, 7, 4, 5, 1, 0, 1, 2, 1, 3, 4, 3, 3};
        rule("a");
        for (int i = 0; i < bad.length; i++) {
            is(bad[i], rule(bad[i]), -1 - at[i]);
            is("THE RULE stays", owner(3, 5), 1);
        }
        is("40 signs", rule(times("-", 39) + "w"), 0);
        is("COST by 39 -", owner(3, 5), -7);
        is("41 signs", rule(times("-", 40) + "w"), -41);
        is("41 signs, the first 40 could end", rule(times("w+", 19) + "ww"), -40);
        is("41 signs, 40 of them could end", rule("1" + times("+1", 19) + "2+"), -41);
        is("40 signs, the last ends too early", rule(times("w+", 20)), -41);
        is("80 signs", rule(times("w+", 40)), -41);
        is("an early fault in a long one", rule("w+" + times(")", 70)), -3);
        is("COST as before", owner(3, 5), -7);
        is("none of it can be undone", x.count(7), 3);
    }

    /** Each of the 256 signs behind texts that can go on: those that are told can stand there, no other can. */
    private static void eachSignOfRules() {
        String things = "whafiqx";
        String digits = "0123456789";
        String ahead = things + digits + "-(";
        String[] texts = {"", "-", "x+", "x<", "(", "x*-", "(((", "((((", "x", "7", "12", "123", "(x", "(7", "x<x", "x=7", "(x<x", "(x)", "(7)",
            "(x<x)", "((x<x)"};
        String[] due = {ahead, ahead, ahead, ahead, ahead, ahead, ahead, things + digits + "-", "+-*/<>=", digits + "+-*/<>=",
            digits + "+-*/<>=", "+-*/<>=", "+-*/<>=)", digits + "+-*/<>=)", "+-*/", digits + "+-*/", "+-*/)", "+-*/<>=", "+-*/<>=",
            "+-*/<>=", "+-*/<>=)"};
        for (int i = 0; i < texts.length; i++) {
            // A sign 33 behind it can never stand: so the answer tells where the first wrong one is.
            int p = texts[i].length();
            for (char c = 0; c < 256; c++) {
                boolean stands = due[i].indexOf(c) >= 0;
                begin(4);
                is("sign " + (int) c + " behind " + texts[i], rule(texts[i] + c + "!"), stands ? -2 - p : -1 - p);
                begin(37);
                is("sign " + (int) c + " behind " + texts[i], law(texts[i] + c + "!"), stands ? -101 - p : -100 - p);
            }
        }
    }

    private static void eachSignOfNamesAndDays() {
        String acts = "bwluegfv";
        for (char c = 0; c < 256; c++) {
            begin(6);
            is("name of sign " + (int) c, named("" + c), c == 'S' ? S : c == 'U' ? U : c == 'X' ? X : -1);
            is("name of I and sign " + (int) c, named("I" + c), c == 'S' ? IS : c == 'X' ? IX : -1);
            begin(17);
            boolean act = acts.indexOf(c) >= 0;
            boolean digit = c >= '0' && c <= '9';
            is("day of sign " + (int) c, day(c + "!"), act ? -2 : -1);
            is("day of b and sign " + (int) c, day("b" + c + "!"), digit ? -3 : -2);
            is("day of l021 and sign " + (int) c, day("l021" + c + "!"), digit ? -6 : -5);
            is("day of b0 and sign " + (int) c, day("b0" + c + "!"), act ? -4 : -3);
            is("nothing is done", x.count(2), 0);
        }
    }

    private static void modes() {
        begin(5);
        int[][] together = {{1, 1, 1, 1, 1, 1, 1}, {1, 1, 1, 1, 1, 1, 0}, {1, 1, 1, 0, 0, 0, 0}, {1, 1, 0, 1, 0, 1, 0},
            {1, 1, 0, 0, 0, 0, 0}, {1, 1, 0, 1, 0, 0, 0}, {1, 0, 0, 0, 0, 0, 0}};
        int[][] both = {{0, 1, 2, 3, 4, 5, 6}, {1, 1, 2, 3, 4, 5, 6}, {2, 2, 2, 4, 4, 6, 6}, {3, 3, 4, 3, 4, 5, 6}, {4, 4, 4, 4, 4, 6, 6},
            {5, 5, 6, 5, 6, 5, 6}, {6, 6, 6, 6, 6, 6, 6}};
        int[][] strong = {{1, 0, 0, 0, 0, 0, 0}, {1, 1, 0, 0, 0, 0, 0}, {1, 1, 1, 0, 0, 0, 0}, {1, 1, 0, 1, 0, 0, 0},
            {1, 1, 1, 1, 1, 0, 0}, {1, 1, 0, 1, 0, 1, 0}, {1, 1, 1, 1, 1, 1, 1}};
        for (int a = 0; a < 7; a++) {
            for (int b = 0; b < 7; b++) {
                is("modes(" + a + ", " + b + ")", x.modes(a, b), together[a][b]);
                row(both[a][b], strong[a][b]);
            }
        }
        int[] none = {-1, 7, Integer.MIN_VALUE, Integer.MAX_VALUE};
        for (int n : none) {
            is("modes", x.modes(n, 0), -1);
            is("modes", x.modes(0, n), -1);
        }
        row(6, 1);
    }

    private static void named() {
        begin(6);
        String[] names = {"", "IS", "IX", "S", "SIX", "U", "X"};
        for (int m = 0; m < names.length; m++) {
            is(names[m], named(names[m]), m);
        }
        for (String name : new String[] {"I", "SI", "SIXX", "is", "x", "US", "IS ", "\u0000", "XX"}) {
            is(name, named(name), -1);
        }
    }

    private static void owner() {
        begin(7);
        x.begins(2);
        x.begins(5);
        x.works(5, 9);
        x.locks(5, 2, X);
        x.locks(2, 2, S);
        long[] due = {1, 2, 9, 0, 2, 11};
        for (int what = 0; what < due.length; what++) {
            is("owner(5, " + what + ")", owner(5, what), due[what]);
        }
        is("it waits", owner(2, 0), 2);
        is("away", owner(7, 0), 0);
        rule("q*100+x*10+i");
        is("COST", owner(5, 5), 115);
        is("COST of one who is away", owner(7, 5), 7);
        is("none such", owner(8, 0), THROWS);
        is("none such", owner(-1, 0), THROWS);
        is("another what", owner(0, 6), THROWS);
        is("another what", owner(0, -1), THROWS);
    }

    private static void held() {
        begin(8);
        x.begins(7);
        x.locks(7, 84, U);
        int[] places = {0, 4, 20, 84};
        int[] due = {IX, IX, IX, U};
        for (int i = 0; i < places.length; i++) {
            is("held", held(7, places[i]), due[i]);
        }
        is("beside it", held(7, 83), 0);
        x.locks(7, 21, IS);
        is("held", held(7, 1), IS);
        is("held", held(7, 5), IS);
        is("IX stays", held(7, 0), IX);
        is("none such", held(8, 0), THROWS);
        is("none such", held(-1, 0), THROWS);
        is("none such", held(0, 85), THROWS);
        is("none such", held(0, -1), THROWS);
    }

    private static void begins() {
        begin(9);
        is("begins", x.begins(7), 1);
        is("begins", x.begins(0), 2);
        is("not away", x.begins(7), -2);
        x.ends(7);
        is("begins", x.begins(7), 3);
        is("AGE", owner(7, 1), 3);
        is("who runs", x.count(0), 129);
        x.locks(7, 0, X);
        x.locks(0, 0, X);
        is("it waits", x.begins(0), -2);
        is("none such", x.begins(8), -1);
        is("none such", x.begins(-1), -1);
    }

    private static void works() {
        begin(10);
        is("away", x.works(1, 9), -2);
        x.begins(1);
        is("works", x.works(1, 1), 1);
        for (int i = 1; i <= 10; i++) {
            is("works", x.works(1, 9), 1 + 9 * i);
        }
        is("99 at most", x.works(1, 9), 99);
        is("99 at most", x.works(1, 1), 99);
        is("none such", x.works(1, 0), -1);
        is("none such", x.works(1, 10), -1);
        is("none such", x.works(8, 1), -1);
        is("none such", x.works(-1, 1), -1);
        x.begins(2);
        x.locks(2, 0, X);
        x.locks(1, 0, S);
        is("it waits", x.works(1, 1), -3);
        is("NONE ahead of that", x.works(1, 0), -1);
        x.ends(1);
        is("WORK is gone", owner(1, 2), 0);
    }

    private static void locks() {
        begin(11);
        is("away", x.locks(0, 0, S), -2);
        for (int o = 0; o < 5; o++) {
            x.begins(o);
        }
        is("done", x.locks(0, 5, S), 1);
        row(85, 0);
        is("COVERED", x.locks(0, 21, S), 1);
        row(85, 0);
        is("nothing more is done", held(0, 21), 0);
        is("IS is COVERED", x.locks(0, 22, IS), 1);
        is("nothing more is done", held(0, 22), 0);
        is("U is not", x.locks(0, 21, U), 1);
        is("IX and S", held(0, 5), SIX);
        is("U", held(0, 21), U);
        is("it waits above", x.locks(1, 22, X), 0);
        row(5, 0);
        is("held so far", held(1, 1), IX);
        is("a CHANGE goes ahead", x.locks(0, 5, X), 1);
        is("X covers all", x.locks(0, 24, X), 1);
        is("COVERED", held(0, 24), 0);
        is("it waits", x.locks(1, 0, IS), -3);
        is("a COMER behind a COMER", x.locks(2, 5, IS), 0);
        is("a CHANGE", x.locks(3, 1, IS), 1);
        is("a CHANGE that can't be", x.locks(3, 1, S), 0);
        row(1, 0);
        is("a second CHANGE", x.locks(2, 1, IX), -3);
        is("a new one behind", x.locks(4, 1, IS), 0);
        is("NONE", x.locks(1, 85, 1), -1);
        is("NONE", x.locks(1, -1, 1), -1);
        is("NONE", x.locks(1, 0, 0), -1);
        is("NONE", x.locks(1, 0, 7), -1);
        is("NONE", x.locks(8, 0, 1), -1);
        is("NONE", x.locks(-1, 0, 1), -1);
        row(1, 0);
        goesOn();
        gathersByItself();
    }

    /** One who is granted goes on with its steps, and all are granted ahead of the first one's going on. */
    private static void goesOn() {
        begin(11);
        for (int o = 0; o < 4; o++) {
            x.begins(o);
        }
        x.locks(0, 1, X);
        is("waits at the table", x.locks(1, 21, X), 0);
        row(1, 0);
        is("waits at the table", x.locks(2, 21, S), 0);
        is("waits at the table", x.locks(3, 22, S), 0);
        is("two of three run", x.unlocks(0, 1), 2);
        is("X", held(1, 21), X);
        is("it goes on, and waits", x.waits(2), 21);
        row(S, 0, 21, S);
        is("IS at the page", held(2, 5), IS);
        is("S", held(3, 22), S);
    }

    private static void gathersByItself() {
        begin(11);
        x.bulk(3);
        x.begins(0);
        x.begins(1);
        x.locks(0, 21, S);
        x.locks(0, 22, S);
        x.locks(0, 25, S);
        row(85, 0);
        is("the third of its page", x.locks(0, 23, S), 1);
        row(85, 1);
        is("S there", held(0, 5), S);
        is("nothing below", held(0, 21), 0);
        is("another page stays", held(0, 25), S);
        x.locks(1, 26, IX);
        x.locks(0, 26, IS);
        x.locks(0, 27, IS);
        row(85, 0);
        is("it can't be: IX is there", held(0, 6), IS);
        x.ends(1);
        is("was held", x.locks(0, 27, IS), 1);
        row(85, 1);
        x.locks(0, 29, X);
        x.locks(0, 30, S);
        is("with X below it is X", x.locks(0, 31, IS), 1);
        row(85, 1);
        is("X", held(0, 7), X);
    }

    private static void unlocks() {
        begin(12);
        is("away", x.unlocks(0, 0), -2);
        x.begins(0);
        x.begins(1);
        x.begins(2);
        x.locks(0, 21, X);
        x.locks(1, 21, S);
        x.locks(2, 21, S);
        row(21, 0);
        is("it waits", x.unlocks(1, 0), -3);
        is("nothing there", x.unlocks(0, 22), -4);
        is("something BELOW", x.unlocks(0, 5), -5);
        is("something BELOW", x.unlocks(0, 0), -5);
        is("NONE", x.unlocks(8, 0), -1);
        is("NONE", x.unlocks(-1, 0), -1);
        is("NONE", x.unlocks(0, 85), -1);
        is("NONE", x.unlocks(0, -1), -1);
        is("NONE ahead of that", x.unlocks(1, 85), -1);
        is("two run", x.unlocks(0, 21), 2);
        row(21, 0);
        is("none waited", x.unlocks(0, 5), 0);
        is("gone", held(0, 5), 0);
        is("the others stay", held(0, 1), IX);
    }

    private static void ends() {
        begin(13);
        is("away", x.ends(0), -2);
        is("NONE", x.ends(8), -1);
        is("NONE", x.ends(-1), -1);
        for (int o = 0; o < 5; o++) {
            x.begins(o);
        }
        x.locks(0, 21, X);
        x.locks(1, 21, X);
        x.locks(2, 21, S);
        x.locks(3, 1, IS);
        x.locks(3, 1, S);
        x.works(0, 5);
        is("ends", x.ends(0), 4);
        row(1);
        is("the first in the QUEUE", owner(1, 0), 1);
        is("behind it", owner(2, 0), 2);
        is("away", owner(0, 0), 0);
        is("AGE", owner(0, 1), 0);
        is("WORK", owner(0, 2), 0);
        is("one who waits ends", x.ends(2), 3);
        row(0);
        is("its REQUEST is gone", x.queue(21), 0);
        is("a REQUEST that goes lets others run", x.locks(2, 0, 1), -2);
        x.locks(4, 1, IS);
        is("behind a CHANGE", owner(4, 0), 2);
        is("the CHANGE goes", x.ends(3), 2);
        row(1);
        is("it runs", owner(4, 0), 1);
    }

    private static void gathers() {
        begin(14);
        is("away", x.gathers(0, 0), -2);
        x.begins(0);
        x.begins(1);
        is("nothing BELOW", x.gathers(0, 0), -4);
        x.locks(0, 21, S);
        x.locks(0, 22, S);
        x.locks(0, 26, IS);
        is("a page", x.gathers(0, 5), 2);
        row(S);
        is("a table", x.gathers(0, 1), 3);
        row(S);
        is("nothing BELOW", held(0, 26), 0);
        is("nothing BELOW", held(0, 6), 0);
        is("nothing BELOW", x.gathers(0, 1), -4);
        x.locks(1, 37, X);
        is("IX of another one", x.gathers(0, 0), -4);
        is("IS of another one goes not with X", x.gathers(1, 0), -4);
        is("X below", x.gathers(1, 2), 2);
        row(X);
        x.locks(0, 2, S);
        is("it waits", x.gathers(0, 0), -3);
        is("a ROW", x.gathers(0, 21), -1);
        is("NONE", x.gathers(0, -1), -1);
        is("NONE", x.gathers(8, 0), -1);
        is("NONE", x.gathers(-1, 0), -1);
        row(2, 0);
        x.ends(1);
        x.locks(0, 53, X);
        x.gathers(0, 3);
        is("all", x.gathers(0, 0), 3);
        row(X);
        is("it alone", owner(0, 4), 1);
        noGatheringPastChange();
    }

    private static void noGatheringPastChange() {
        begin(14);
        for (int o = 0; o < 3; o++) {
            x.begins(o);
        }
        x.locks(0, 21, S);
        x.locks(1, 5, IS);
        x.locks(2, 5, S);
        x.locks(1, 5, IX);
        is("a CHANGE is in the QUEUE", x.gathers(0, 5), -4);
        x.ends(1);
        is("none is", x.gathers(0, 5), 1);
        row(S);
    }

    private static void bulk() {
        begin(15);
        is("it is so", x.bulk(5), -2);
        is("bulk", x.bulk(2), 15);
        is("bulk", x.bulk(4), 12);
        is("it is so", x.bulk(4), -2);
        is("NONE", x.bulk(1), -1);
        is("NONE", x.bulk(6), -1);
        is("BULK", x.count(3), 4);
        x.begins(0);
        for (int p = 21; p <= 23; p++) {
            x.locks(0, p, S);
            row(85, 0);
        }
        x.locks(0, 24, S);
        row(85, 1);
    }

    /** Two rings: 0 and 1, 2 and 3; 4 runs. */
    private static void twoRings() {
        for (int o = 0; o < 5; o++) {
            x.begins(o);
        }
        x.locks(0, 21, X);
        x.locks(1, 22, X);
        x.locks(2, 23, X);
        x.locks(3, 24, X);
        x.locks(0, 22, S);
        x.locks(1, 21, S);
        x.locks(2, 24, S);
        x.locks(3, 23, S);
    }

    private static void fells() {
        begin(16);
        is("no RING", x.fells(), 0);
        row();
        twoRings();
        x.works(4, 9);
        is("of equal ones the greatest AGE", x.fells(), 2);
        row(3, 1);
        is("FALLS", owner(3, 3), 1);
        is("FALLS", owner(1, 3), 1);
        is("away", x.count(0), 1 | 4 | 16);
        is("none waits", x.count(1), 0);
        is("it went on", held(0, 22), S);
        x.undo();
        rule("a");
        is("the least COST", x.fells(), 2);
        row(0, 2);
        begin(16);
        x.begins(0);
        for (int i = 0; i < 50; i++) {
            x.begins(1);
            x.locks(0, 21, S);
            x.locks(1, 21, S);
            x.locks(0, 21, X);
            x.locks(1, 21, X);
            is("the one who came last", x.fells(), 1);
            is("it", rowAt(0), 1);
            x.unlocks(0, 21);
        }
        is("each time", owner(1, 3), 50);
    }

    private static void day() {
        begin(17);
        is("nothing", day(""), 0);
        row(0, 0);
        is("nothing to undo", x.count(7), 0);
        is("a DAY", day("b0b1w09l0216l1213v3"), 6);
        row(0, 2);
        is("as one", x.count(7), 1);
        is("BULK", x.count(3), 3);
        is("it waits", x.waits(1), 21);
        is("one is refused", day("w05u021g000b1e0"), 2);
        row(1, 0);
        is("unlocked", held(0, 21), 0);
        is("not done behind it", owner(0, 0), 1);
        is("the first is refused", day("b0"), 0);
        row(1, 0);
        is("not kept", x.count(7), 2);
        is("a digit that is no owner", day("b9"), 0);
        row(1, 0);
        is("f and e", day("fe0e1"), 3);
        row(0, 0);
        String[] bad = {"x", "b", "bb", "w0", "w0a", "l000", "l00000", "l0", "u00", "u0x1", "e", "e/", "g01", "g:", "ff0", "v", "v ", "b0 b1",
            "b0z", "B0"};
        int[] at = {0, 1, 1, 2, 2, 4, 5, 2, 3, 2, 1, 1, 3, 1, 2, 1, 1, 2, 2, 0};
        for (int i = 0; i < bad.length; i++) {
            is(bad[i], day(bad[i]), -1 - at[i]);
        }
        row(0, 0);
        is("nothing is done then", x.count(0), 0);
        is("nothing is done then", x.count(7), 3);
        is("80 signs", day(times("f", 80)), 80);
        is("BULK and gathering", day("b0v2l0211l0223"), 4);
        is("BULK", x.count(3), 2);
        is("S", held(0, 5), S);
        is("nothing BELOW: refused", day("l0251g005v3"), 1);
        row(1, 0);
        is("g", day("g001"), 1);
        is("S", held(0, 1), S);
    }

    private static void undo() {
        begin(18);
        is("none", x.undo(), -1);
        x.begins(0);
        x.works(0, 9);
        x.locks(0, 21, X);
        int before = heldSum();
        x.begins(1);
        x.locks(1, 21, S);
        x.unlocks(0, 21);
        is("refused ones are not kept", x.unlocks(0, 21), -4);
        is("six", x.count(7), 6);
        is("undo", x.undo(), 5);
        is("it waits again", x.waits(1), 21);
        row(S, 0, 21, S);
        is("undo", x.undo(), 4);
        row(S, 0, 21, S);
        is("undo", x.undo(), 3);
        is("away again", owner(1, 0), 0);
        is("how many began", x.count(2), 1);
        is("as it was", heldSum(), before);
        is("undo", x.undo(), 2);
        is("undo", x.undo(), 1);
        is("WORK", owner(0, 2), 0);
        is("undo", x.undo(), 0);
        is("none", x.undo(), -1);
        for (int i = 0; i < 13; i++) {
            x.fells();
        }
        is("10 are kept", x.count(7), 10);
        x.bulk(2);
        is("10 are kept", x.count(7), 10);
        is("undo", x.undo(), 9);
        is("BULK", x.count(3), 5);
        for (int i = 8; i >= 0; i--) {
            is("undo", x.undo(), i);
        }
        is("none", x.undo(), -1);
        rule("7");
        x.bulk(3);
        x.sign(0);
        x.undo();
        is("THE RULE stays", owner(0, 5), 7);
        is("THE TEXT stays", x.count(9), 4);
        undoOfEach();
        undoTen();
    }

    /** The state ahead of each kind of act comes back. */
    private static void undoOfEach() {
        begin(18);
        twoRings();
        x.locks(4, 29, S);
        x.locks(4, 30, S);
        int before = heldSum();
        x.begins(6);
        x.undo();
        is("begins() undone", owner(6, 0), 0);
        x.works(4, 3);
        x.undo();
        is("works() undone", owner(4, 2), 0);
        x.locks(4, 21, X);
        x.undo();
        is("locks() undone", x.queue(21), 1);
        x.unlocks(4, 30);
        x.undo();
        is("unlocks() undone", heldSum(), before);
        x.ends(0);
        x.undo();
        is("ends() undone", heldSum(), before);
        x.gathers(4, 7);
        x.undo();
        is("gathers() undone", heldSum(), before);
        x.bulk(2);
        x.undo();
        is("bulk() undone", x.count(3), 5);
        x.fells();
        x.undo();
        is("fells() undone", x.rings(), 15);
        is("FALLS", x.count(6), 0);
        day("e0b0fv2");
        x.undo();
        is("day() undone", heldSum(), before);
        is("rings", x.rings(), 15);
    }

    /** The tenth one back is whole, though calls were refused and more than ten were done. */
    private static void undoTen() {
        begin(18);
        x.begins(0);
        for (int i = 0; i < 12; i++) {
            x.works(0, 1);
        }
        is("refused", x.works(0, 0), -1);
        is("refused", x.begins(0), -2);
        is("refused", day("b0"), 0);
        for (int i = 1; i <= 10; i++) {
            is("undo", x.undo(), 10 - i);
            is("WORK", owner(0, 2), 12 - i);
        }
        is("none", x.undo(), -1);
    }

    private static void holders() {
        begin(19);
        x.begins(1);
        x.begins(6);
        x.locks(1, 5, S);
        x.locks(6, 21, S);
        is("holders", x.holders(5), 66);
        row(S);
        x.locks(6, 25, X);
        is("holders", x.holders(0), 66);
        row(IX);
        is("holders", x.holders(1), 66);
        row(IX);
        is("none", x.holders(2), 0);
        row(0);
        is("NONE", x.holders(85), -1);
        is("NONE", x.holders(-1), -1);
        x.locks(1, 6, IS);
        is("BOTH", x.holders(6), 66);
        row(IX);
    }

    private static void queue() {
        begin(20);
        for (int o = 0; o < 8; o++) {
            x.begins(o);
        }
        x.locks(7, 2, IS);
        x.locks(6, 2, IS);
        x.locks(5, 2, IX);
        x.locks(1, 2, X);
        x.locks(0, 2, IS);
        x.locks(7, 2, S);
        x.locks(6, 2, SIX);
        is("CHANGES first", x.queue(2), 4);
        row(7, 6, 1, 0);
        is("none", x.queue(0), 0);
        row();
        is("NONE", x.queue(85), -1);
        is("NONE", x.queue(-1), -1);
        is("one CHANGE is granted", x.ends(5), 2);
        row(1);
        is("and all behind one that can't be stay", x.queue(2), 3);
        row(6, 1, 0);
    }

    private static void waits() {
        begin(21);
        x.begins(0);
        x.begins(1);
        x.begins(2);
        x.locks(0, 5, S);
        x.locks(1, 5, S);
        is("does not wait", x.waits(0), -2);
        is("away", x.waits(5), -2);
        x.locks(2, 22, U);
        is("above what it LOCKS", x.waits(2), 5);
        row(IX, 0, 22, U);
        x.locks(1, 21, X);
        is("a CHANGE goes ahead", x.waits(1), 5);
        row(SIX, 0, 21, X);
        x.waits(2);
        row(IX, 1, 22, U);
        is("NONE", x.waits(8), -1);
        is("NONE", x.waits(-1), -1);
    }

    private static void covers() {
        begin(22);
        x.begins(0);
        x.locks(0, 21, U);
        is("by itself", x.covers(0, 21), U);
        row(85);
        is("nothing", x.covers(0, 22), 0);
        row(85);
        x.locks(0, 1, S);
        is("S above, U there", x.covers(0, 21), U);
        row(1);
        is("S above", x.covers(0, 22), S);
        row(1);
        is("IX there", x.covers(0, 5), SIX);
        row(1);
        is("the table itself", x.covers(0, 1), SIX);
        row(85);
        is("another table", x.covers(0, 2), 0);
        row(85);
        x.locks(0, 5, X);
        is("X above", x.covers(0, 24), X);
        row(5);
        is("X above goes ahead of U there", x.covers(0, 21), X);
        row(5);
        x.locks(0, 0, X);
        is("the first from THE BASE on", x.covers(0, 24), X);
        row(0);
        is("NONE", x.covers(8, 0), -1);
        is("NONE", x.covers(-1, 0), -1);
        is("NONE", x.covers(0, 85), -1);
        is("NONE", x.covers(0, -1), -1);
    }

    private static void may() {
        begin(23);
        is("away", x.may(0, 0, S), -2);
        x.begins(0);
        x.begins(1);
        x.begins(2);
        is("four STEPS", x.may(0, 84, X), 1);
        row(85, 4);
        is("nothing is done", x.holders(0), 0);
        x.locks(0, 21, X);
        is("it would wait there", x.may(1, 21, S), 0);
        row(21, 3);
        is("it would wait above", x.may(1, 5, S), 0);
        row(5, 2);
        is("it holds all", x.may(0, 21, S), 1);
        row(85, 0);
        is("SIX at the page", x.may(0, 5, S), 1);
        row(85, 1);
        x.locks(1, 21, S);
        is("it waits", x.may(1, 0, IS), -2);
        is("behind one who waits", x.may(2, 21, S), 0);
        row(21, 3);
        is("it would wait at the page", x.may(0, 5, X), 0);
        row(5, 0);
        x.ends(1);
        x.locks(0, 5, X);
        is("COVERED", x.may(0, 22, X), 1);
        row(85, 0);
        is("NONE", x.may(0, 0, 0), -1);
        is("NONE", x.may(0, 0, 7), -1);
        is("NONE", x.may(0, 85, 1), -1);
        is("NONE", x.may(0, -1, 1), -1);
        is("NONE", x.may(8, 0, 1), -1);
        is("NONE ahead of that", x.may(1, 85, 1), -1);
    }

    private static void free() {
        begin(24);
        is("away", x.free(0, 1, S), -2);
        x.begins(0);
        x.begins(1);
        x.begins(2);
        x.locks(0, 21, X);
        x.locks(0, 36, S);
        x.locks(0, 52, X);
        is("all but the first", x.free(1, 1, S), 0xFFFE);
        row(15);
        is("all but two", x.free(1, 1, X), 0x7FFE);
        row(14);
        is("the last of the second table", x.free(1, 2, U), 0x7FFF);
        row(15);
        is("all of the fourth", x.free(1, 4, X), 0xFFFF);
        row(16);
        is("all for itself", x.free(0, 1, X), 0xFFFF);
        x.locks(2, 6, S);
        is("a page in S", x.free(1, 1, X), 0x7F0E);
        row(10);
        x.locks(1, 6, X);
        is("it waits", x.free(1, 1, S), -2);
        is("COVERED", x.free(2, 1, S), 0xFFFE);
        is("NONE", x.free(0, 0, 1), -1);
        is("NONE", x.free(0, 5, 1), -1);
        is("NONE", x.free(0, 1, 0), -1);
        is("NONE", x.free(0, 1, 7), -1);
        is("NONE", x.free(8, 1, 1), -1);
        is("NONE", x.free(-1, 1, 1), -1);
    }

    private static void behind() {
        begin(25);
        for (int o = 0; o < 5; o++) {
            x.begins(o);
        }
        x.locks(0, 1, IS);
        x.locks(1, 1, IX);
        x.locks(2, 1, S);
        x.locks(3, 1, IS);
        is("it runs", x.behind(0), 0);
        row(0);
        is("by its mode alone", x.behind(2), 2);
        row(1);
        is("by its place in the QUEUE", x.behind(3), 4);
        row(1);
        x.locks(0, 1, X);
        is("a CHANGE: for the holder", x.behind(0), 2);
        is("and all behind it", x.behind(3), 5);
        row(2);
        is("away", x.behind(7), 0);
        is("NONE", x.behind(8), -1);
        is("NONE", x.behind(-1), -1);
    }

    private static void stops() {
        begin(26);
        for (int o = 0; o < 4; o++) {
            x.begins(o);
        }
        x.locks(0, 21, X);
        x.locks(1, 22, X);
        x.locks(1, 21, S);
        x.locks(2, 22, S);
        x.locks(3, 22, IS);
        is("one behind the other", x.stops(0), 14);
        row(1);
        is("two", x.stops(1), 12);
        row(2);
        x.locks(0, 22, X);
        is("itself, too", x.stops(0), 15);
        row(1);
        is("none", x.stops(7), 0);
        row(0);
        is("NONE", x.stops(8), -1);
        is("NONE", x.stops(-1), -1);
    }

    private static void rings() {
        begin(27);
        is("none", x.rings(), 0);
        row(0);
        twoRings();
        is("two", x.rings(), 15);
        row(4);
        x.locks(4, 21, X);
        is("one who waits for one in a RING is in none", x.rings(), 15);
        x.ends(0);
        is("one", x.rings(), 12);
        row(2);
    }

    private static void ring() {
        begin(28);
        for (int o = 0; o < 6; o++) {
            x.begins(o);
        }
        is("in none", x.ring(0), -2);
        for (int o = 0; o < 4; o++) {
            x.locks(o, 21 + o, S);
        }
        x.locks(4, 22, S);
        x.locks(3, 21, X);
        x.locks(1, 24, X);
        x.locks(4, 24, X);
        x.locks(0, 22, X);
        is("of as short ones the least row", x.ring(0), 3);
        row(0, 1, 3);
        is("from it on", x.ring(3), 3);
        row(3, 0, 1);
        is("by the other way", x.ring(4), 3);
        row(4, 3, 0);
        is("in none", x.ring(2), -2);
        is("NONE", x.ring(8), -1);
        is("NONE", x.ring(-1), -1);
        x.ends(4);
        is("the RING stays", x.ring(1), 3);
        row(1, 3, 0);
        begin(28);
        for (int o = 0; o < 8; o++) {
            x.begins(o);
            x.locks(o, 21 + o, X);
        }
        for (int o = 0; o < 8; o++) {
            x.locks(o, 21 + (o + 1) % 8, S);
        }
        is("all eight", x.ring(5), 8);
        row(5, 6, 7, 0, 1, 2, 3, 4);
    }

    private static void victim() {
        begin(29);
        is("no RING", x.victim(), -2);
        twoRings();
        is("the greatest AGE", x.victim(), 3);
        row(4);
        is("it stays", x.rings(), 15);
        x.locks(4, 21, X);
        rule("0-q");
        is("those for whom most wait, the younger one", x.victim(), 1);
        row(-2);
        rule("w");
        is("equal ones", x.victim(), 3);
        row(0);
    }

    private static void frees() {
        begin(30);
        for (int o = 0; o < 6; o++) {
            x.begins(o);
        }
        is("does not wait", x.frees(0), -2);
        is("away", x.frees(7), -2);
        for (int o = 0; o < 3; o++) {
            x.locks(o, 21, S);
        }
        x.locks(3, 21, X);
        is("three", x.frees(3), 3);
        row(7);
        x.locks(4, 21, X);
        is("the one ahead, too", x.frees(4), 4);
        row(15);
        x.locks(5, 21, S);
        is("those ahead", x.frees(5), 2);
        row(24);
        is("NONE", x.frees(8), -1);
        is("NONE", x.frees(-1), -1);
        begin(30);
        for (int o = 0; o < 4; o++) {
            x.begins(o);
        }
        x.locks(2, 1, X);
        x.locks(0, 1, X);
        x.locks(1, 22, X);
        x.locks(3, 37, X);
        is("all ahead of it", x.frees(1), 2);
        row(5);
        is("it stays", x.count(1), 3);
    }

    private static void drains() {
        begin(31);
        is("none", x.drains(), 0);
        row(0);
        twoRings();
        is("rings stay", x.drains(), 1);
        row(4, 15);
        is("it stays", x.count(0), 16);
        begin(31);
        for (int o = 0; o < 8; o++) {
            x.begins(o);
        }
        x.locks(3, 21, X);
        x.locks(5, 22, X);
        x.locks(1, 21, X);
        x.locks(0, 22, X);
        is("the least number first", x.drains(), 8);
        row(2, 3, 1, 4, 5, 0, 6, 7, 0);
    }

    private static void saves() {
        begin(32);
        is("away", x.saves(0, 0), -2);
        x.begins(0);
        x.begins(1);
        is("nothing BELOW", x.saves(0, 0), -2);
        x.locks(0, 21, S);
        x.locks(0, 22, IS);
        is("a page", x.saves(0, 5), 2);
        row(S, 1);
        is("THE BASE", x.saves(0, 0), 4);
        row(S, 1);
        x.locks(1, 37, X);
        is("IX there: it could not", x.saves(0, 0), 4);
        row(S, 0);
        is("X below", x.saves(1, 2), 2);
        row(X, 1);
        x.locks(0, 37, S);
        is("it waits", x.saves(0, 5), 2);
        row(S, 0);
        is("nothing is done", held(0, 21), S);
        is("a ROW", x.saves(0, 21), -1);
        is("NONE", x.saves(0, -1), -1);
        is("NONE", x.saves(8, 0), -1);
        is("NONE", x.saves(-1, 0), -1);
    }

    private static void holds() {
        begin(33);
        is("none", x.holds(0, 0), 0);
        row();
        x.begins(0);
        x.locks(0, 84, S);
        x.locks(0, 21, S);
        is("all", x.holds(0, 0), 7);
        row(0, 1, 4, 5, 20, 21, 84);
        is("from one on", x.holds(0, 5), 4);
        row(5, 20, 21, 84);
        is("behind one", x.holds(0, 22), 1);
        row(84);
        for (int p = 21; p < 40; p++) {
            x.locks(0, p, S);
        }
        is("many", x.holds(0, 20), 21);
        row(20, 21, 22, 23, 24, 25, 26, 27, 28, 29, 30, 31);
        is("NONE", x.holds(0, 85), -1);
        is("NONE", x.holds(0, -1), -1);
        is("NONE", x.holds(8, 0), -1);
        is("NONE", x.holds(-1, 0), -1);
    }

    private static void common() {
        begin(34);
        is("none", x.common(0, 1), 0);
        row(85, 0);
        x.begins(0);
        x.begins(1);
        x.locks(0, 21, S);
        x.locks(1, 22, S);
        is("three", x.common(0, 1), 3);
        row(0, 0);
        x.locks(0, 21, X);
        x.locks(1, 21, S);
        is("it waits where it holds nothing", x.common(1, 0), 3);
        row(0, 0);
        x.undo();
        x.locks(1, 5, SIX);
        is("it waits at the page", x.common(1, 0), 3);
        row(0, 1);
        x.locks(0, 5, S);
        is("both wait there", x.common(1, 0), 3);
        row(0, 1);
        is("like ones", x.common(0, 0), -1);
        is("NONE", x.common(0, 8), -1);
        is("NONE", x.common(-1, 0), -1);
    }

    private static void queues() {
        begin(35);
        is("none", x.queues(), 0);
        row();
        for (int o = 0; o < 7; o++) {
            x.begins(o);
        }
        x.locks(0, 40, S);
        x.locks(1, 40, S);
        x.locks(2, 30, X);
        x.locks(0, 40, X);
        x.locks(3, 30, X);
        is("of as many the first", x.queues(), 2);
        row(30, 1);
        x.locks(4, 40, S);
        is("the most", x.queues(), 2);
        row(40, 1);
        x.locks(5, 30, X);
        x.locks(1, 40, X);
        is("the most", x.queues(), 2);
        row(40, 2);
    }

    private static void sum() {
        begin(36);
        int due = 7;
        for (int i = 0; i < 680; i++) {
            due = 31 * due;
        }
        is("sum", x.sum(), 0);
        row(due);
        x.begins(7);
        x.begins(0);
        x.locks(7, 84, X);
        x.locks(0, 1, S);
        due = 7;
        for (int p = 0; p < 85; p++) {
            for (int o = 0; o < 8; o++) {
                int mode = o == 7 ? (p == 84 ? X : p == 0 || p == 4 || p == 20 ? IX : 0)
                    : o == 0 ? (p == 0 ? IS : p == 1 ? S : 0) : 0;
                due = 31 * due + mode;
            }
        }
        is("sum", x.sum(), 0);
        row(due);
    }

    private static void law() {
        begin(37);
        is("no RING", law("i"), 8);
        row(0, 0, 0);
        twoRings();
        is("another RULE", law("i"), 0);
        row(0, 2, 2);
        is("none: w+h", law(""), 3);
        row(4, 2, 2);
        is("THE RULE stays", owner(4, 5), 0);
        is("nothing is done", x.rings(), 15);
        x.locks(4, 21, X);
        is("by how many wait for it", law("0-q"), 1);
        row(-2, 2, 2);
        String[] bad = {"z", "w+", "w<h<a", "((((("};
        int[] at = {0, 2, 3, 4};
        for (int i = 0; i < bad.length; i++) {
            is(bad[i], law(bad[i]), -100 - at[i]);
        }
        is("more than 40", law(times("w+", 20) + "w"), -140);
        row(-2, 2, 2);
        fewerByAnother();
    }

    /** One owner stands in two rings: who fells it needs one alone. */
    private static void fewerByAnother() {
        begin(37);
        for (int o = 0; o < 3; o++) {
            x.begins(o);
        }
        x.locks(0, 21, S);
        x.locks(1, 21, S);
        x.locks(2, 22, X);
        x.locks(0, 23, X);
        x.locks(0, 22, X);
        x.locks(1, 23, X);
        x.locks(2, 21, X);
        is("rings", x.rings(), 7);
        is("one alone", law("2-i"), 2);
        row(0, 1, 1);
        is("the first", law("i"), 0);
        row(0, 1, 1);
        is("the second does not free all", law("i=0"), 2);
        is("by a count of marks", law("9-(i=1)*9"), 1);
        row(0, 2, 1);
    }

    private static void years() {
        begin(38);
        is("NONE", x.years(1, 0), -1);
        is("NONE", x.years(1, 41), -1);
        is("NONE", x.years(1, -1), -1);
        // R of seed 0 is 12345: (12345 >>> 16) is 0, so begins(); the next R tells the owner.
        int second = 12345 * 1103515245 + 12345;
        int owner = (second >>> 16) % 8;
        is("one begins", x.years(0, 1), 0);
        int empty = heldSum();
        is("one begins", x.years(0, 1), 0);
        row(empty, 1 << owner, 0);
        is("nothing is done", x.count(0), 0);
        is("nothing to undo", x.count(7), 0);
        for (int seed = -20; seed <= 20; seed++) {
            int n = 1 + (seed & 15) * 2;
            yearsByHand(seed, n);
        }
        yearsByHand(Integer.MIN_VALUE, 40);
        yearsByHand(Integer.MAX_VALUE, 40);
        yearsByHand(12345, 40);
        yearsOfRings();
    }

    /** All read all: who wants to write waits for all, so that rings come, and who goes is told by WORK. */
    private static void yearsOfRings() {
        for (int seed = 1; seed <= 100; seed++) {
            begin(38);
            rule("w");
            allRead(x);
            Used y = new Used();
            y.sign('w' << 24);
            y.end(1);
            y.rule();
            allRead(y);
            yearsByHand(y, seed, 40);
        }
    }

    private static void allRead(Used y) {
        for (int o = 0; o < 8; o++) {
            y.begins(o);
            y.locks(o, 0, S);
        }
    }

    private static int r;

    private static int draw(int n) {
        r = r * 1103515245 + 12345;
        return (int) ((r & 0xFFFFFFFFL) / 65536 % n);
    }

    /** The same calls one by one on another object. */
    private static void yearsByHand(int seed, int n) {
        yearsByHand(new Used(), seed, n);
    }

    private static void yearsByHand(Used y, int seed, int n) {
        r = seed;
        for (int i = 0; i < n; i++) {
            int what = draw(6);
            int owner = draw(8);
            if (what == 0) {
                y.begins(owner);
            } else if (what < 4) {
                int place = draw(85);
                y.locks(owner, place, draw(6) + 1);
            } else if (what == 4) {
                y.works(owner, draw(9) + 1);
            } else {
                int way = draw(3);
                if (way == 0) {
                    y.ends(owner);
                } else if (way == 1) {
                    y.fells();
                } else {
                    y.gathers(owner, draw(21));
                }
            }
        }
        y.sum();
        is("years(" + seed + ", " + n + ")", x.years(seed, n), Integer.bitCount(y.count(1)));
        row(y.row(0), y.count(0), y.count(6));
    }

    private static void keep() {
        begin(39);
        is("keep", x.keep(0), true);
        is("keep", x.keep(2), true);
        is("refused", x.keep(3), false);
        is("refused", x.keep(-1), false);
        is("nothing to undo", x.count(7), 0);
        x.begins(4);
        is("what was kept stays", x.again(2), true);
        is("away again", owner(4, 0), 0);
        x.begins(5);
        is("kept anew", x.keep(2), true);
        x.ends(5);
        x.again(2);
        is("it runs", owner(5, 0), 1);
        is("undo does not touch it", x.undo(), -1);
    }

    private static void again() {
        begin(40);
        is("nothing kept", x.again(0), false);
        x.begins(0);
        x.begins(1);
        x.locks(0, 21, X);
        x.locks(1, 21, X);
        x.bulk(2);
        x.keep(1);
        is("refused", x.again(0), false);
        is("refused", x.again(3), false);
        is("refused", x.again(-1), false);
        is("refused: undo stays", x.count(7), 5);
        rule("i+7");
        x.ends(0);
        x.bulk(4);
        x.sign(5);
        is("again", x.again(1), true);
        is("nothing to undo", x.undo(), -1);
        is("it waits", x.waits(1), 21);
        row(X, 0, 21, X);
        is("BULK", x.count(3), 2);
        is("THE RULE stays", owner(1, 5), 8);
        is("THE TEXT stays", x.count(9), 4);
        x.ends(1);
        is("once more", x.again(1), true);
        is("it waits", x.waits(1), 21);
        fallsAndTurnsAgain();
    }

    private static void fallsAndTurnsAgain() {
        begin(40);
        twoRings();
        x.fells();
        x.keep(0);
        x.begins(1);
        x.begins(3);
        x.locks(1, 21, S);
        x.locks(3, 21, S);
        is("again", x.again(0), true);
        is("FALLS", x.count(6), 2);
        is("WORK", owner(0, 2), 0);
        x.begins(3);
        x.begins(1);
        x.locks(3, 21, S);
        x.locks(1, 21, S);
        is("as they came", x.queue(21), 2);
        row(3, 1);
    }

    private static void count() {
        begin(41);
        twoRings();
        x.begins(6);
        x.locks(4, 40, S);
        x.bulk(3);
        x.fells();
        twoRings();
        x.sign(0);
        x.queue(22);
        int[] due = {85, 10, 8, 3, 2, 20, 2, 10, 1, 4};
        for (int what = 0; what < due.length; what++) {
            is("count(" + what + ")", x.count(what), due[what]);
        }
        is("another what", x.count(10), -100);
        is("another what", x.count(-1), -100);
    }

    private static void toldRow() {
        begin(42);
        is("none yet", rowAt(0), THROWS);
        x.modes(2, 3);
        is("row", rowAt(0), SIX);
        is("row", rowAt(1), 0);
        is("none such", rowAt(2), THROWS);
        is("none such", rowAt(-1), THROWS);
        x.modes(7, 7);
        x.locks(0, 0, 1);
        x.begins(0);
        row(SIX, 0);
        x.queues();
        row();
    }

    public static void main(String[] args) {
        newObject();
        sign();
        end();
        rule();
        eachSignOfRules();
        eachSignOfNamesAndDays();
        modes();
        named();
        owner();
        held();
        begins();
        works();
        locks();
        unlocks();
        ends();
        gathers();
        bulk();
        fells();
        day();
        undo();
        holders();
        queue();
        waits();
        covers();
        may();
        free();
        behind();
        stops();
        rings();
        ring();
        victim();
        frees();
        drains();
        saves();
        holds();
        common();
        queues();
        sum();
        law();
        years();
        keep();
        again();
        count();
        toldRow();
        System.out.println(wrong == 0 ? "all promises hold" : wrong + " answers are not as due");
        if (wrong != 0) {
            System.exit(1);
        }
    }
}
