/** Promises 1 to 42: a test of each sentence that names an edge. */
public final class EdgeTest extends Edges {
    public static void main(String[] args) {
        readDocument();
        made();
        sign();
        end();
        ruleTaken();
        ruleRefused();
        modes();
        namedMode();
        owner();
        heldMode();
        begins();
        works();
        locks();
        locksRefused();
        unlocks();
        ends();
        gathers();
        bulk();
        fells();
        dayTold();
        dayRefused();
        undo();
        undoEach();
        undoLeaves();
        holders();
        queue();
        waits();
        covers();
        may();
        free();
        behind();
        stops();
        rings();
        ringTold();
        victim();
        frees();
        drains();
        saves();
        holds();
        common();
        queues();
        summed();
        lawTold();
        years();
        keep();
        again();
        againAll();
        count();
        toldRow();
        finish();
    }

    private static void made() {
        edge(1, "All are away.", () -> {
            is("who runs", x.count(0), 0);
            is("who waits", x.count(1), 0);
            for (int o = 0; o < 8; o++) {
                is("stands", stands(o), 0);
            }
            is("none has begun", x.count(2), 0);
            is("THE TEXT", x.count(9), 0);
            is("THE ROW", x.count(8), 0);
            is("nothing to undo", x.undo(), NONE);
        });
    }

    private static void sign() {
        edge(2, "Four signs come behind THE TEXT, of v the highest byte first: how many it has.", () -> {
            is("first", x.sign('w' << 24 | '+' << 16 | '7' << 8 | '*'), 4);
            is("behind them", x.sign('2' << 24 | '<' << 16 | '9' << 8 | '9'), 8);
            is("rule", x.rule(), 0);
            is("w+7*2<99", x.owner(0, 5), 1);
            is("the highest byte is a sign from 128 on", x.sign(0x80000000), 4);
            is("it can't stand there", x.rule(), -1);
            x.sign('7' << 24 | 255);
            is("the lowest, too", x.rule(), -2);
        });
        edge(2, "Refused: there would be more than 80.", () -> {
            for (int n = 4; n <= 80; n += 4) {
                is("sign", x.sign(LEAST), n);
            }
            is("84", x.sign(0), NONE);
            is("80 stay", x.count(9), 80);
            for (int n = 79; n >= 77; n--) {
                x.end(n);
                is("more than 80", x.sign(0), NONE);
                is("they stay", x.count(9), n);
            }
            x.end(76);
            is("80", x.sign(0), 80);
        });
    }

    private static void end() {
        edge(3, "THE TEXT has its first n signs alone: true;", () -> {
            x.sign('S' << 24 | 'I' << 16 | 'X' << 8 | 'X');
            is("all", x.end(4), true);
            is("three", x.end(3), true);
            is("signs", x.count(9), 3);
            is("its first ones", x.named(), SIX);
            is("none of none", x.end(0), true);
            x.sign('X' << 24);
            is("none", x.end(0), true);
            is("signs", x.count(9), 0);
        });
        edge(3, "false if it has not so many, or n is below 0.", () -> {
            is("one of none", x.end(1), false);
            x.sign(0);
            is("five of four", x.end(5), false);
            is("below 0", x.end(-1), false);
            is("far below 0", x.end(LEAST), false);
            is("far more", x.end(GREATEST), false);
            is("signs", x.count(9), 4);
        });
    }

    private static void ruleTaken() {
        edge(4, "THE TEXT is THE RULE (an empty one: none): 0.", () -> {
            begun(1);
            x.works(0, 7);
            gets(0, 0, X);
            is("rule", rule("w*2"), 0);
            is("COST", x.owner(0, 5), 14);
            is("an empty one", rule(""), 0);
            is("w+h", x.owner(0, 5), 8);
        });
    }

    private static void ruleRefused() {
        edge(4, "-1 - p: the sign at p can't stand there", () -> {
            is("the first", rule("!"), -1);
            is("the second", rule("w!"), -2);
            is("the first of two", rule("w!!"), -2);
            is("the 40th", rule(times("w+", 19) + "w!"), -40);
            is("the 40th, with more behind it", rule(times("w+", 19) + "w!!"), -40);
            is("a sign 0", rule("w" + (char) 0), -2);
            is("a sign 255", rule("w" + (char) 255), -2);
        });
        edge(4, "-1 - p: the sign at p can't stand there", () -> {
            begun(1);
            x.works(0, 7);
            String[] refused = {"-", "--(-", "((((w", "1<", "1<2<", "(1<", "12", "w+w*", "(((((", "-9!", "1<2+3*-(4<5!"};
            String[] taken = {"w", "w+1", "((((w))))", "w<8", "1<w", "(w)<8", "999-w", "w*w+w", "(w)", "w-9", "-w<1"};
            int[] due = {7, 8, 7, 1, 1, 1, 992, 56, 7, -2, 1};
            for (int i = 0; i < due.length; i++) {
                is(refused[i], rule(refused[i]) < 0, !refused[i].equals("12"));
                is(taken[i] + " is read as if that had not been", rule(taken[i]), 0);
                is("COST by " + taken[i], x.owner(0, 5), due[i]);
            }
        });
        edge(4, "(its end, if it ends too early;", () -> {
            is("one", rule("-"), -2);
            is("a bracket", rule("(w"), -3);
            is("39 signs", rule(times("w+", 19) + "-"), -40);
            is("40 signs", rule(times("w+", 20)), -41);
            is("40 signs, a bracket", rule("(" + times("w+", 19) + "w"), -41);
        });
        edge(4, "40, if it has more and the first 40 could go on or end).", () -> {
            is("40 that could end", rule(times("w+", 19) + "10+"), -41);
            is("40 that could go on", rule(times("w+", 20) + "w"), -41);
            is("a 41st that could never stand", rule(times("w+", 20) + "!"), -41);
            is("the most", rule(times("w+", 40)), -41);
            is("40 are not more", rule(times("w+", 19) + "10"), 0);
        });
    }

    private static void modes() {
        edge(5, "1, if two modes (0 .. 6) go together, else 0; the ROW: BOTH of them, 1 if the first one is as strong as the second, else 0.", () -> {
            is("the least", x.modes(0, 0), 1);
            row(0, 1);
            is("the greatest", x.modes(6, 6), 0);
            row(X, 1);
            is("the first one is stronger", x.modes(U, S), 1);
            row(U, 1);
            is("the second one is stronger", x.modes(S, U), 1);
            row(U, 0);
        });
        edge(5, "NONE: others.", () -> {
            int[] others = {-1, 7, LEAST, GREATEST};
            for (int m : others) {
                is("the first", x.modes(m, 0), NONE);
                is("the second", x.modes(0, m), NONE);
                is("both", x.modes(m, m), NONE);
            }
        });
    }

    private static void namedMode() {
        edge(6, "THE TEXT is the name of a MODE (IS, IX, S, SIX, U, X; an empty one: 0): its number.", () -> {
            is("an empty one", named(""), 0);
            String[] names = {"IS", "IX", "S", "SIX", "U", "X"};
            for (int m = IS; m <= X; m++) {
                is(names[m - 1], named(names[m - 1]), m);
                is("THE TEXT is empty then", x.count(9), 0);
            }
        });
        edge(6, "NONE: no such name.", () -> {
            String[] others = {"I", "XI", "SI", "SS", "SIXX", "ISX", "s", "u", "x", "ix", " S", "S ", "S" + (char) 0, "" + (char) 0, "0", "6",
                times("X", 80)};
            for (String name : others) {
                is(name, named(name), NONE);
                is("THE TEXT is empty then", x.count(9), 0);
            }
        });
    }

    private static void owner() {
        edge(7, "what 0: 0 (away), 1 (it runs) or 2 (it waits), 1: AGE, 2: WORK, 3: FALLS, 4: at how many PLACES it holds something, 5: COST.", () -> {
            x.begins(6);
            gets(6, 21, X);
            x.begins(7);
            x.works(7, 9);
            gets(7, 22, X);
            stuck(7, 21, S, 21);
            stuck(6, 22, S, 22);
            x.fells();
            long[] due = {1, 1, 0, 1, 0, 0};
            x.begins(6);
            due = new long[] {1, 3, 0, 1, 0, 0};
            for (int what = 0; what < 6; what++) {
                is("owner(6, " + what + ")", x.owner(6, what), due[what]);
            }
            stuck(6, 22, S, 22);
            is("it waits", x.owner(6, 0), 2);
            is("it holds above", x.owner(6, 4), 3);
            is("away", x.owner(0, 0), 0);
            due = new long[] {1, 2, 9, 0, 5, 14};
            for (int what = 0; what < 6; what++) {
                is("owner(7, " + what + ")", x.owner(7, what), due[what]);
            }
        });
        edge(7, "NoSuchElementException: none such, another what.", () -> {
            int[] none = {-1, 8, LEAST, GREATEST};
            for (int o : none) {
                is("none such", x.owner(o, 0), THROWS);
            }
            int[] others = {-1, 6, LEAST, GREATEST};
            for (int what : others) {
                is("another what", x.owner(0, what), THROWS);
                is("none such and another what", x.owner(8, what), THROWS);
            }
        });
    }

    private static void heldMode() {
        edge(8, "The mode that an owner holds at a PLACE.", () -> {
            x.begins(7);
            gets(7, 84, SIX);
            held(7, 84, SIX);
            held(7, 83, 0);
            held(7, 20, IX);
            held(7, 0, IX);
            held(6, 84, 0);
        });
        edge(8, "NoSuchElementException: none such.", () -> {
            int[] owners = {-1, 8, LEAST, GREATEST};
            for (int o : owners) {
                is("no owner", x.held(o, 0), THROWS);
            }
            int[] places = {-1, 85, LEAST, GREATEST};
            for (int p : places) {
                is("no PLACE", x.held(0, p), THROWS);
            }
        });
    }

    private static void begins() {
        edge(9, "An owner begins: it runs: AGE.", () -> {
            is("the first", x.begins(7), 1);
            is("it runs", stands(7), 1);
            is("the second", x.begins(0), 2);
            x.ends(7);
            is("once more", x.begins(7), 3);
        });
        edge(9, "-2: it is not away;", () -> {
            begun(2);
            is("it runs", x.begins(0), -2);
            gets(0, 0, X);
            stuck(1, 0, S, 0);
            is("it waits", x.begins(1), -2);
            is("how many began", x.count(2), 2);
        });
        edge(9, "NONE: none such.", () -> {
            int[] owners = {-1, 8, LEAST, GREATEST};
            for (int o : owners) {
                is("none such", x.begins(o), NONE);
            }
            is("how many began", x.count(2), 0);
        });
    }

    private static void works() {
        edge(10, "WORK of an owner is n (1 .. 9) more (99 at most): WORK.", () -> {
            begun(1);
            is("the least", x.works(0, 1), 1);
            for (int i = 1; i <= 10; i++) {
                is("the greatest", x.works(0, 9), 1 + 9 * i);
            }
            is("91 and 8", x.works(0, 8), 99);
            is("99 and 1", x.works(0, 1), 99);
            is("99 and 9", x.works(0, 9), 99);
            x.ends(0);
            x.begins(0);
            for (int i = 0; i < 10; i++) {
                x.works(0, 9);
            }
            x.works(0, 4);
            is("94 and 9", x.works(0, 9), 99);
        });
        edge(10, "-2: it is away; -3: it waits;", () -> {
            begun(2);
            gets(0, 0, X);
            stuck(1, 0, S, 0);
            is("away", x.works(2, 1), -2);
            is("it waits", x.works(1, 1), -3);
            is("WORK", x.owner(1, 2), 0);
        });
        edge(10, "NONE: others.", () -> {
            begun(1);
            int[] others = {0, 10, -1, LEAST, GREATEST};
            for (int n : others) {
                is("n", x.works(0, n), NONE);
            }
            int[] owners = {-1, 8, LEAST, GREATEST};
            for (int o : owners) {
                is("none such", x.works(o, 1), NONE);
            }
            is("WORK", x.owner(0, 2), 0);
        });
    }

    private static void locks() {
        edge(11, "1 if that is done (COVERED, too), 0 if it waits;", () -> {
            begun(2);
            is("done", x.locks(0, 5, X), 1);
            is("COVERED", x.locks(0, 21, X), 1);
            is("held", x.locks(0, 5, X), 1);
            is("it waits", x.locks(1, 21, IS), 0);
        });
        edge(11, "the ROW: the PLACE where it waits (85: nowhere), 1 if it GATHERED, else 0.", () -> {
            begun(3);
            gets(0, 84, X);
            row(85, 0);
            gets(0, 84, S);
            row(85, 0);
            is("THE BASE", x.locks(1, 0, S), 0);
            row(0, 0);
            is("behind it", x.locks(2, 84, IX), 0);
            row(0, 0);
            x.ends(2);
            x.ends(1);
            x.bulk(2);
            gets(0, 83, S);
            row(85, 1);
            x.begins(2);
            is("the PAGE", x.locks(2, 84, IX), 0);
            row(20, 0);
        });
        edge(11, "An owner LOCKS a PLACE in a mode (1 .. 6):", () -> {
            begun(1);
            for (int m = IS; m <= X; m++) {
                gets(0, 78 + m, m);
                held(0, 78 + m, m);
            }
            is("0", x.locks(0, 0, 0), NONE);
            is("7", x.locks(0, 0, 7), NONE);
        });
    }

    private static void locksRefused() {
        edge(11, "-2: it is away; -3: it waits;", () -> {
            begun(2);
            gets(0, 0, X);
            stuck(1, 0, S, 0);
            is("away", x.locks(2, 84, IS), -2);
            is("it waits", x.locks(1, 84, IS), -3);
            is("it waits, for the same", x.locks(1, 0, S), -3);
        });
        edge(11, "NONE: others.", () -> {
            begun(1);
            int[] modes = {0, 7, -1, LEAST, GREATEST};
            for (int m : modes) {
                is("mode", x.locks(0, 0, m), NONE);
            }
            int[] places = {-1, 85, LEAST, GREATEST};
            for (int p : places) {
                is("PLACE", x.locks(0, p, IS), NONE);
            }
            int[] owners = {-1, 8, LEAST, GREATEST};
            for (int o : owners) {
                is("owner", x.locks(o, 0, IS), NONE);
            }
            is("it holds nothing", x.owner(0, 4), 0);
        });
    }

    private static void unlocks() {
        edge(12, "What an owner holds at a PLACE is gone, and the PLACE is served: how many owners run then who waited.", () -> {
            begun(4);
            gets(0, 1, X);
            stuck(1, 1, S, 1);
            stuck(2, 21, S, 1);
            gets(3, 37, X);
            is("two", x.unlocks(0, 1), 2);
            held(0, 1, 0);
            is("none", x.unlocks(0, 0), 0);
            is("it holds nothing any more", x.owner(0, 4), 0);
            anew();
            begun(3);
            gets(0, 1, SIX);
            gets(1, 21, S);
            stuck(2, 21, X, 1);
            is("granted, and stuck behind that: it waits", x.unlocks(0, 1), 0);
            is("at the ROW", x.waits(2), 21);
        });
        edge(12, "-2: it is away; -3: it waits; -4: it holds nothing there; -5: it holds something BELOW;", () -> {
            begun(2);
            gets(0, 21, X);
            stuck(1, 21, S, 21);
            is("away", x.unlocks(2, 0), -2);
            is("it waits", x.unlocks(1, 5), -3);
            is("nothing there", x.unlocks(0, 22), -4);
            is("nothing there", x.unlocks(0, 84), -4);
            is("its PAGE", x.unlocks(0, 5), -5);
            is("its TABLE", x.unlocks(0, 1), -5);
            is("THE BASE", x.unlocks(0, 0), -5);
            is("the ROW", x.unlocks(0, 21), 1);
            is("nothing there any more", x.unlocks(0, 21), -4);
            is("its TABLE yet", x.unlocks(0, 1), -5);
            is("its PAGE", x.unlocks(0, 5), 0);
            is("its TABLE", x.unlocks(0, 1), 0);
            is("THE BASE", x.unlocks(0, 0), 0);
        });
        edge(12, "NONE: others.", () -> {
            begun(1);
            gets(0, 0, X);
            int[] places = {-1, 85, LEAST, GREATEST};
            for (int p : places) {
                is("PLACE", x.unlocks(0, p), NONE);
            }
            int[] owners = {-1, 8, LEAST, GREATEST};
            for (int o : owners) {
                is("owner", x.unlocks(o, 0), NONE);
            }
            held(0, 0, X);
        });
    }

    private static void ends() {
        edge(13, "An owner (that runs or waits) GOES: at how many PLACES it held something; the ROW: how many owners run then who waited.", () -> {
            begun(4);
            is("it held nothing", x.ends(3), 0);
            row(0);
            gets(0, 21, X);
            stuck(1, 21, S, 21);
            stuck(2, 21, X, 21);
            is("it waits", x.ends(1), 3);
            row(0);
            x.begins(1);
            stuck(1, 21, S, 21);
            is("one of two runs", x.ends(0), 4);
            row(1);
            held(2, 21, X);
            is("all of it", x.ends(2), 4);
            row(1);
        });
        edge(13, "-2: it is away;", () -> {
            is("at first", x.ends(0), -2);
            begun(1);
            x.ends(0);
            is("it has gone", x.ends(0), -2);
        });
        edge(13, "NONE: none such.", () -> {
            int[] owners = {-1, 8, LEAST, GREATEST};
            for (int o : owners) {
                is("owner", x.ends(o), NONE);
            }
        });
    }

    private static void gathers() {
        edge(14, "An owner GATHERS at a PLACE (not a ROW): at how many PLACES it holds something no more; the ROW: what it holds there then.", () -> {
            begun(1);
            gets(0, 84, S);
            is("the last PAGE", x.gathers(0, 20), 1);
            row(S);
            is("its TABLE", x.gathers(0, 4), 1);
            row(S);
            is("THE BASE", x.gathers(0, 0), 1);
            row(S);
            is("the first ROW", x.gathers(0, 21), NONE);
            is("the last ROW", x.gathers(0, 84), NONE);
        });
        edge(14, "-2: it is away; -3: it waits; -4: it can't be;", () -> {
            begun(3);
            gets(0, 21, S);
            gets(1, 22, X);
            stuck(0, 22, S, 22);
            is("away", x.gathers(3, 0), -2);
            is("it waits", x.gathers(0, 5), -3);
            is("nothing BELOW", x.gathers(2, 0), -4);
            is("X does not go with IS", x.gathers(1, 5), -4);
        });
        edge(14, "NONE: others.", () -> {
            begun(1);
            gets(0, 21, S);
            int[] places = {-1, 21, 84, 85, LEAST, GREATEST};
            for (int p : places) {
                is("PLACE", x.gathers(0, p), NONE);
            }
            int[] owners = {-1, 8, LEAST, GREATEST};
            for (int o : owners) {
                is("owner", x.gathers(o, 0), NONE);
            }
        });
    }

    private static void bulk() {
        edge(15, "BULK becomes v (2 .. 5): 10 and what it was.", () -> {
            is("from 5 to 2", x.bulk(2), 15);
            is("from 2 to 3", x.bulk(3), 12);
            is("from 3 to 4", x.bulk(4), 13);
            is("from 4 to 5", x.bulk(5), 14);
            is("BULK", x.count(3), 5);
        });
        edge(15, "-2: it is so;", () -> {
            is("at first", x.bulk(5), -2);
            x.bulk(2);
            is("then", x.bulk(2), -2);
        });
        edge(15, "NONE: another v.", () -> {
            int[] others = {1, 6, 0, -1, LEAST, GREATEST};
            for (int v : others) {
                is("v", x.bulk(v), NONE);
            }
            is("BULK", x.count(3), 5);
        });
    }

    private static void fells() {
        edge(16, "As long as there is a RING:", () -> {
            is("no RING", x.fells(), 0);
            row();
            begun(8);
            for (int o = 0; o < 8; o += 2) {
                ring(o, o + 1);
            }
            is("four RINGS", x.fells(), 4);
            row(7, 5, 3, 1);
            is("none is left", x.rings(), 0);
            is("none any more", x.fells(), 0);
            row();
        });
        edge(16, "of all owners that are in one, the one of the least COST (of equal ones the greatest AGE) is felled:", () -> {
            begun(3);
            x.works(1, 1);
            x.works(2, 1);
            ring(1, 2);
            stuck(0, 22, S, 22);
            is("one", x.fells(), 1);
            row(2);
            anew();
            x.begins(2);
            x.begins(1);
            ring(1, 2);
            is("one", x.fells(), 1);
            row(1);
            anew();
            begun(2);
            x.works(1, 1);
            ring(0, 1);
            is("the least COST goes ahead of AGE", x.fells(), 1);
            row(0);
            anew();
            begun(2);
            ring(0, 1);
            rule("-i*999*999*999");
            is("a COST below 0 and one of 0", x.fells(), 1);
            row(1);
        });
        edge(16, "FALLS are 1 more (99 at most), it GOES: how many were; the ROW: they, in turn.", () -> {
            begun(4);
            ring(0, 1);
            ring(2, 3);
            rule("i");
            is("two", x.fells(), 2);
            row(0, 2);
            is("FALLS", x.owner(0, 3), 1);
            is("FALLS", x.owner(1, 3), 0);
            is("away", stands(2), 0);
            is("it runs", stands(3), 1);
            anew();
            begun(1);
            gets(0, 21, X);
            for (int i = 0; i < 99; i++) {
                fallOfOne(i);
            }
            is("99", x.owner(1, 3), 99);
            fallOfOne(99);
            row(1);
            is("no more", x.owner(1, 3), 99);
        });
    }

    private static void dayTold() {
        edge(17, "THE TEXT tells A DAY (an empty one: nothing), acts one behind another:", () -> {
            is("nothing", day(""), 0);
            row(0, 0);
            is("nothing to undo", x.count(7), 0);
            is("one", day("b7"), 1);
            row(0, 0);
            is("more than one", day("b0w79w09"), 3);
            row(0, 0);
            is("eighty", day(times("f", 80)), 80);
            row(0, 0);
        });
        edge(17, "b and a digit (begins()), w and two digits (works()), l, a digit, two digits and a digit (locks(): owner, PLACE, mode), u, a digit"
            + " and two digits (unlocks()), e and a digit (ends()), g, a digit and two digits (gathers()), f (fells()), v and a digit (bulk()):", () -> {
            is("b", day("b6b7"), 2);
            is("AGE", x.owner(7, 1), 2);
            is("w", day("w69"), 1);
            is("WORK", x.owner(6, 2), 9);
            is("l", day("l6846l7833"), 2);
            held(6, 84, X);
            held(7, 83, S);
            is("u", day("u784"), 0);
            is("u", day("u783"), 1);
            held(7, 83, 0);
            is("g", day("l7213g701"), 2);
            held(7, 21, 0);
            held(7, 1, S);
            is("a LOCK that waits is not refused", day("l7843w69"), 2);
            row(0, 128);
            is("e", day("e6"), 1);
            row(0, 0);
            held(7, 84, S);
            is("f", day("f"), 1);
            is("v", day("v2"), 1);
            is("BULK", x.count(3), 2);
            is("a RING", day("b0l0376l7386l0383l7373"), 5);
            row(0, 129);
            is("f", day("f"), 1);
            row(0, 0);
            is("FALLS", x.owner(0, 3), 1);
        });
        edge(17, "they are done one by one, till one is refused (it answers below 0): how many were done;", () -> {
            is("the first", day("e0b0"), 0);
            row(1, 0);
            is("the last", day("b0b1b0"), 2);
            row(1, 0);
            is("in the middle", day("w01w00b2"), 1);
            row(1, 0);
            is("an owner that is none", day("b8"), 0);
            is("an owner that is none", day("b9"), 0);
            is("a PLACE that is none", day("l0851"), 0);
            is("a PLACE that is none", day("l0991"), 0);
            is("a mode that is none", day("l0000"), 0);
            is("a mode that is none", day("l0007"), 0);
            is("WORK of 0", day("w00"), 0);
            is("BULK of 1", day("v1"), 0);
            is("BULK of 6", day("v6"), 0);
            is("BULK is so", day("v5"), 0);
            is("a ROW", day("g021"), 0);
            is("nothing there", day("u084"), 0);
            row(1, 0);
            is("FELLING none is not refused", day("fff"), 3);
            row(0, 0);
        });
        edge(17, "the ROW: 1 if one was refused, else 0; who waits then (bits).", () -> {
            is("a day", day("b0b7l0006l7003"), 4);
            row(0, 128);
            is("none done", day("b0"), 0);
            row(1, 128);
            is("nothing", day(""), 0);
            row(0, 128);
        });
    }

    private static void dayRefused() {
        edge(17, "-1 - p: the sign at p can't stand there (its end, if it ends too early);", () -> {
            String[] acts = {"b0", "w01", "l0211", "u021", "e0", "g005", "f", "v3"};
            for (String act : acts) {
                for (int n = 1; n < act.length(); n++) {
                    String early = act.substring(0, n);
                    is(early, day(early), -1 - n);
                    is(early + "b", day(early + "b"), -1 - n);
                    is("f" + early + "/", day("f" + early + "/"), -2 - n);
                    is(early + ":", day(early + ":"), -1 - n);
                }
                is(act + "!", day(act + "!"), -1 - act.length());
                is(act + "0", day(act + "0"), -1 - act.length());
            }
            is("the last of eighty", day(times("f", 79) + "b"), -81);
            is("the 80th", day(times("f", 79) + "0"), -80);
        });
        edge(17, "nothing is done then.", () -> {
            begun(1);
            String before = whole();
            is("a fault behind acts", day("b1w09l0216v3x"), -13);
            is("as it was", whole().equals(before), true);
            is("too early", day("b1w09l0216v3b"), -14);
            is("as it was", whole().equals(before), true);
        });
    }

    private static void undo() {
        edge(18, "(of 10 that are kept, the latest ones;", () -> {
            begun(1);
            for (int i = 1; i <= 9; i++) {
                x.works(0, 1);
            }
            is("ten", x.count(7), 10);
            x.works(0, 1);
            is("eleven: ten are kept", x.count(7), 10);
            for (int i = 9; i >= 0; i--) {
                is("left", x.undo(), i);
                is("WORK", x.owner(0, 2), i);
            }
            is("begins() is not kept", x.undo(), NONE);
            is("it runs", stands(0), 1);
            for (int i = 1; i <= 11; i++) {
                x.works(0, 1);
            }
            is("a refused one keeps none", x.works(0, 0), NONE);
            is("a refused one keeps none", x.begins(0), -2);
            for (int i = 9; i >= 0; i--) {
                is("left", x.undo(), i);
            }
            is("the tenth one back", x.owner(0, 2), 1);
        });
        edge(18, "such as were done,", () -> {
            begun(1);
            is("refused", x.begins(0), -2);
            is("refused", x.works(0, 0), NONE);
            is("refused", x.locks(0, 85, 1), NONE);
            is("refused", x.unlocks(0, 0), -4);
            is("refused", x.ends(1), -2);
            is("refused", x.gathers(0, 0), -4);
            is("refused", x.bulk(5), -2);
            is("one", x.count(7), 1);
            gets(0, 5, X);
            gets(0, 21, X);
            is("COVERED ones are done", x.count(7), 3);
            is("one of them", x.undo(), 2);
            held(0, 5, X);
            is("the other", x.undo(), 1);
            held(0, 5, 0);
            is("left", x.undo(), 0);
            is("away", stands(0), 0);
        });
        edge(18, "fells() by which none was, too;", () -> {
            x.bulk(3);
            is("none", x.fells(), 0);
            is("two", x.count(7), 2);
            is("undo", x.undo(), 1);
            is("BULK", x.count(3), 3);
        });
        edge(18, "day() of which one act was done, as one)", () -> {
            is("three acts", day("b0b1b2"), 3);
            is("as one", x.count(7), 1);
            is("one of two", day("w09w00"), 1);
            is("as one", x.count(7), 2);
            is("none of one", day("b0"), 0);
            is("not kept", x.count(7), 2);
            is("nothing", day(""), 0);
            is("not kept", x.count(7), 2);
            is("f alone", day("f"), 1);
            is("kept", x.count(7), 3);
            is("left", x.undo(), 2);
            is("left", x.undo(), 1);
            is("WORK", x.owner(0, 2), 0);
            is("left", x.undo(), 0);
            is("all are away", x.count(0), 0);
        });
        edge(18, "how many are left that can be. Refused: none.", () -> {
            is("none", x.undo(), NONE);
            begun(1);
            is("left", x.undo(), 0);
            is("none", x.undo(), NONE);
        });
    }

    private interface Act {
        int done();
    }

    /** On a desk where all eight hold or wait, the act is undone at once: all is as ahead of it. */
    private static void undone(String name, Act act) {
        edge(18, "is undone (all but THE RULE, THE TEXT and THE ROW is as ahead of it):", () -> {
            eight();
            String before = picture();
            is(name + " was done", act.done() >= 0, true);
            is(name + " has changed it", picture().equals(before), false);
            is("left", x.undo(), 9);
            is("as it was ahead of " + name, picture().equals(before), true);
            is("how many began", x.count(2), 10);
            x.ends(5);
            held(0, 84, U);
            is("the QUEUE at 21", x.queue(21), 2);
            row(7, 6);
        });
    }

    /** 0 waits at 84 for 5, 7 and 6 at 21 as CHANGES, 1 and 2 in a RING, 3 runs; 7 and 4 were felled, 4 is away. */
    private static void eight() {
        begun(8);
        ring(6, 7);
        x.fells();
        x.ends(6);
        is("begins", x.begins(7), 9);
        is("begins", x.begins(6), 10);
        ring(3, 4);
        x.fells();
        gets(0, 53, IS);
        gets(7, 21, IX);
        gets(3, 21, IX);
        gets(6, 21, IX);
        gets(5, 84, X);
        gets(3, 37, S);
        gets(3, 38, S);
        x.works(7, 4);
        ring(1, 2);
        stuck(0, 84, U, 84);
        stuck(7, 21, S, 21);
        stuck(6, 21, S, 21);
    }

    private static void undoEach() {
        undone("begins()", () -> x.begins(4));
        undone("works()", () -> x.works(3, 9));
        undone("locks()", () -> x.locks(3, 54, X));
        undone("locks() that waits", () -> x.locks(3, 84, S));
        undone("unlocks()", () -> x.unlocks(3, 21));
        undone("ends()", () -> x.ends(6));
        undone("ends() of one that runs", () -> x.ends(5));
        undone("gathers()", () -> x.gathers(3, 9));
        undone("bulk()", () -> x.bulk(2));
        undone("fells()", () -> x.fells());
        undone("day()", () -> day("e7b4w39l3846fv2"));
    }

    private static void undoLeaves() {
        edge(18, "(all but THE RULE, THE TEXT and THE ROW is as ahead of it):", () -> {
            begun(4);
            gets(0, 21, IS);
            gets(1, 21, IX);
            stuck(2, 21, S, 21);
            stuck(0, 21, X, 21);
            x.works(1, 4);
            String before = picture();
            is("the one that runs ends", x.ends(1), 4);
            rule("7");
            x.say("SIX");
            x.modes(IX, S);
            is("undo", x.undo(), 9);
            row(SIX, 0);
            is("THE TEXT stays", x.named(), SIX);
            is("THE RULE stays", x.owner(3, 5), 7);
            is("as ahead of it", picture().equals(before), true);
            is("the QUEUE, too", x.queue(21), 2);
            row(0, 2);
            x.begins(5);
            x.undo();
            is("how many began, too", x.begins(6), 5);
            x.bulk(2);
            x.undo();
            is("BULK, too", x.count(3), 5);
        });
        edge(18, "(again() forgets them, if it is not refused.)", () -> {
            begun(2);
            x.keep(2);
            is("refused", x.again(0), false);
            is("refused", x.again(3), false);
            is("two", x.count(7), 2);
            is("not refused", x.again(2), true);
            is("none", x.count(7), 0);
            is("undo", x.undo(), NONE);
        });
    }

    private static void holders() {
        edge(19, "Owners who hold something at a PLACE (bits): them; the ROW: BOTH of all that they hold there (one behind the other).", () -> {
            is("none", x.holders(84), 0);
            row(0);
            x.begins(7);
            x.begins(0);
            gets(7, 0, IX);
            is("one", x.holders(0), 128);
            row(IX);
            gets(0, 84, IX);
            is("two", x.holders(0), 129);
            row(IX);
            is("one", x.holders(84), 1);
            row(IX);
            x.begins(1);
            stuck(1, 0, S, 0);
            is("who waits holds nothing", x.holders(0), 129);
            row(IX);
        });
        edge(19, "NONE: none such.", () -> {
            int[] places = {-1, 85, LEAST, GREATEST};
            for (int p : places) {
                is("PLACE", x.holders(p), NONE);
            }
        });
    }

    private static void queue() {
        edge(20, "How many REQUESTS are in the QUEUE of a PLACE: how many; the ROW: owners, in its order.", () -> {
            is("none", x.queue(84), 0);
            row();
            begun(8);
            gets(7, 84, X);
            for (int o = 6; o >= 0; o--) {
                stuck(o, 84, IS, 84);
            }
            is("seven", x.queue(84), 7);
            row(6, 5, 4, 3, 2, 1, 0);
            x.ends(6);
            x.ends(7);
            x.begins(7);
            stuck(7, 84, X, 84);
            is("one, the others run", x.queue(84), 1);
            row(7);
            is("above", x.queue(20), 0);
            row();
        });
        edge(20, "NONE: none such.", () -> {
            int[] places = {-1, 85, LEAST, GREATEST};
            for (int p : places) {
                is("PLACE", x.queue(p), NONE);
            }
        });
    }

    private static void waits() {
        edge(21, "The PLACE at which an owner waits: it; the ROW: w, which one in the QUEUE (from 0 on), the PLACE that it LOCKS, the mode.", () -> {
            begun(6);
            gets(0, 84, X);
            stuck(1, 84, S, 84);
            stuck(2, 84, IS, 84);
            is("the first", x.waits(1), 84);
            row(S, 0, 84, S);
            is("behind it", x.waits(2), 84);
            row(IS, 1, 84, IS);
            gets(3, 0, IX);
            stuck(3, 0, S, 0);
            is("BOTH", x.waits(3), 0);
            row(SIX, 0, 0, S);
            stuck(4, 83, U, 0);
            is("ahead of the PLACE", x.waits(4), 0);
            row(IX, 1, 83, U);
            anew();
            begun(8);
            gets(3, 84, X);
            int[] turns = {7, 0, 6, 1, 5, 2, 4};
            for (int i = 0; i < turns.length; i++) {
                stuck(turns[i], 84, X, 84);
            }
            for (int i = 0; i < turns.length; i++) {
                is("waits", x.waits(turns[i]), 84);
                row(X, i, 84, X);
            }
        });
        edge(21, "-2: it does not wait;", () -> {
            begun(1);
            is("it runs", x.waits(0), -2);
            is("it is away", x.waits(1), -2);
        });
        edge(21, "NONE: none such.", () -> {
            int[] owners = {-1, 8, LEAST, GREATEST};
            for (int o : owners) {
                is("owner", x.waits(o), NONE);
            }
        });
    }

    private static void covers() {
        edge(22, "X, if it holds X at one that the PLACE is BELOW;", () -> {
            begun(1);
            gets(0, 21, U);
            gets(0, 1, S);
            gets(0, 5, X);
            is("X at its PAGE, S above that", x.covers(0, 21), X);
            row(5);
            is("the PAGE itself: BOTH of X and S", x.covers(0, 5), X);
            row(1);
            is("BELOW another PAGE", x.covers(0, 25), S);
            row(1);
        });
        edge(22, "else BOTH of what it holds there and S, if it holds S, SIX or U at one that the PLACE is BELOW;", () -> {
            for (int m : new int[] {S, SIX, U}) {
                anew();
                begun(1);
                int there = m == U ? IS : IX;
                gets(0, 84, there);
                gets(0, 4, m);
                is("BOTH", x.covers(0, 84), there == IX ? SIX : S);
                row(4);
                is("0 and S", x.covers(0, 83), S);
                row(4);
                is("another TABLE", x.covers(0, 21), 0);
                row(85);
            }
        });
        edge(22, "else what it holds there: it;", () -> {
            begun(1);
            is("nothing", x.covers(0, 84), 0);
            row(85);
            gets(0, 84, SIX);
            is("by itself", x.covers(0, 84), SIX);
            row(85);
            is("above", x.covers(0, 0), IX);
            row(85);
            is("IX above is none", x.covers(0, 83), 0);
            row(85);
            gets(0, 0, X);
            is("THE BASE itself", x.covers(0, 0), X);
            row(85);
        });
        edge(22, "the ROW: the first PLACE, from THE BASE on, of those that the PLACE is BELOW, by which that is so (85: it holds none such).", () -> {
            begun(1);
            gets(0, 20, X);
            is("X", x.covers(0, 84), X);
            row(20);
            gets(0, 4, X);
            is("X", x.covers(0, 84), X);
            row(4);
            gets(0, 0, X);
            is("X", x.covers(0, 84), X);
            row(0);
            anew();
            begun(1);
            gets(0, 20, S);
            gets(0, 4, U);
            is("S", x.covers(0, 84), S);
            row(4);
        });
        edge(22, "NONE: none such.", () -> {
            int[] others = {-1, LEAST, GREATEST};
            for (int n : others) {
                is("PLACE", x.covers(0, n), NONE);
                is("owner", x.covers(n, 0), NONE);
            }
            is("PLACE", x.covers(7, 85), NONE);
            is("owner", x.covers(8, 84), NONE);
        });
    }

    private static void may() {
        edge(23, "Whether an owner that runs would be done at once, if it LOCKED a PLACE in a mode (1 .. 6): 1, else 0;", () -> {
            begun(3);
            for (int m = IS; m <= X; m++) {
                is("alone", x.may(0, 84, m), 1);
            }
            gets(1, 84, S);
            is("IS", x.may(0, 84, IS), 1);
            is("S", x.may(0, 84, S), 1);
            is("U", x.may(0, 84, U), 1);
            is("X", x.may(0, 84, X), 0);
            gets(1, 20, S);
            is("U", x.may(0, 84, U), 0);
            row(20, 2);
            stuck(2, 20, IX, 20);
            is("behind a REQUEST", x.may(0, 84, S), 0);
            row(20, 2);
            is("COVERED", x.may(1, 84, S), 1);
            row(85, 0);
        });
        edge(23, "the ROW: the PLACE where it would wait (85: nowhere), how many STEPS would be granted that it does not hold yet.", () -> {
            begun(2);
            is("nowhere", x.may(0, 84, X), 1);
            row(85, 4);
            int[] places = {1, 4, 5, 20, 21};
            int[] steps = {2, 2, 3, 3, 4};
            for (int i = 0; i < places.length; i++) {
                is("nowhere", x.may(0, places[i], S), 1);
                row(85, steps[i]);
            }
            is("THE BASE", x.may(0, 0, X), 1);
            row(85, 1);
            gets(1, 0, IS);
            is("there", x.may(0, 0, X), 0);
            row(0, 0);
            gets(1, 84, IS);
            is("there", x.may(0, 84, X), 0);
            row(84, 3);
            gets(0, 84, S);
            is("IS is held, IX is not", x.may(0, 84, IX), 1);
            row(85, 4);
            is("IS is held", x.may(0, 83, S), 1);
            row(85, 1);
            is("all is held", x.may(0, 84, S), 1);
            row(85, 0);
            gets(0, 81, X);
            x.bulk(2);
            is("it would GATHER: the STEP alone", x.may(0, 82, X), 1);
            row(85, 1);
        });
        edge(23, "-2: it is away, or waits;", () -> {
            begun(2);
            gets(0, 0, X);
            stuck(1, 0, S, 0);
            is("away", x.may(2, 0, IS), -2);
            is("it waits", x.may(1, 0, IS), -2);
        });
        edge(23, "NONE: others.", () -> {
            begun(1);
            int[] modes = {0, 7, -1, LEAST, GREATEST};
            for (int m : modes) {
                is("mode", x.may(0, 0, m), NONE);
            }
            int[] places = {-1, 85, LEAST, GREATEST};
            for (int p : places) {
                is("PLACE", x.may(0, p, IS), NONE);
            }
            int[] owners = {-1, 8, LEAST, GREATEST};
            for (int o : owners) {
                is("owner", x.may(o, 0, IS), NONE);
            }
        });
    }

    private static void free() {
        edge(24, "ROWS of a TABLE (1 .. 4), 0 .. 15 (bits), for which may() would answer 1: them; the ROW: how many.", () -> {
            begun(3);
            gets(1, 36, X);
            gets(1, 37, X);
            gets(1, 84, X);
            is("the first: all but its last", x.free(0, 1, S), 0x7FFF);
            row(15);
            is("the second: all but its first", x.free(0, 2, S), 0xFFFE);
            row(15);
            is("the third: all", x.free(0, 3, X), 0xFFFF);
            row(16);
            is("the fourth: all but its last", x.free(0, 4, IS), 0x7FFF);
            row(15);
            gets(2, 3, X);
            is("none", x.free(0, 3, IS), 0);
            row(0);
            is("all COVERED", x.free(2, 3, X), 0xFFFF);
            row(16);
            is("COVERED by the TABLE ahead of it are none", x.free(2, 4, X), 0x7FFF);
            row(15);
            gets(1, 52, X);
            gets(2, 10, X);
            gets(2, 11, X);
            is("the first and the last", x.free(2, 2, X), 0x7FFE);
            row(14);
        });
        edge(24, "-2, NONE: as may().", () -> {
            begun(2);
            gets(0, 0, X);
            stuck(1, 0, S, 0);
            is("away", x.free(2, 1, IS), -2);
            is("it waits", x.free(1, 1, IS), -2);
            int[] tables = {0, 5, -1, LEAST, GREATEST};
            for (int t : tables) {
                is("TABLE", x.free(0, t, IS), NONE);
            }
            int[] modes = {0, 7, -1, LEAST, GREATEST};
            for (int m : modes) {
                is("mode", x.free(0, 1, m), NONE);
            }
            int[] owners = {-1, 8, LEAST, GREATEST};
            for (int o : owners) {
                is("owner", x.free(o, 1, IS), NONE);
            }
        });
    }

    private static void behind() {
        edge(25, "Owners for whom an owner WAITS (bits): them; the ROW: how many.", () -> {
            is("away", x.behind(7), 0);
            row(0);
            begun(8);
            is("it runs", x.behind(7), 0);
            row(0);
            for (int o = 0; o < 7; o++) {
                gets(o, 84, S);
            }
            stuck(7, 84, X, 84);
            is("all others", x.behind(7), 127);
            row(7);
        });
        edge(25, "NONE: none such.", () -> {
            int[] owners = {-1, 8, LEAST, GREATEST};
            for (int o : owners) {
                is("owner", x.behind(o), NONE);
            }
        });
    }

    private static void stops() {
        edge(26, "Owners who wait for an owner, or for one who does, and so on (bits; itself, too, if it is in a RING): them; the ROW: how many WAIT FOR"
            + " it themselves.", () -> {
            is("away", x.stops(7), 0);
            row(0);
            begun(8);
            gets(7, 21, X);
            for (int o = 6; o >= 0; o--) {
                gets(o, 22 + o, X);
                int next = o == 6 ? 21 : 23 + o;
                stuck(o, next, S, next);
            }
            is("one behind the other, it is in none", x.stops(7), 127);
            row(1);
            is("the last one", x.stops(0), 0);
            row(0);
            is("the first one", x.stops(1), 1);
            row(1);
            stuck(7, 22, S, 22);
            is("itself, too", x.stops(7), 255);
            row(1);
            is("each", x.stops(0), 255);
            row(1);
        });
        edge(26, "NONE: none such.", () -> {
            int[] owners = {-1, 8, LEAST, GREATEST};
            for (int o : owners) {
                is("owner", x.stops(o), NONE);
            }
        });
    }

    private static void rings() {
        edge(27, "Owners that are in a RING (bits): them; the ROW: how many.", () -> {
            is("none", x.rings(), 0);
            row(0);
            begun(8);
            ring(6, 7);
            stuck(0, 27, S, 27);
            is("two, not who waits for one of them", x.rings(), 192);
            row(2);
            x.ends(0);
            x.begins(0);
            ring(0, 5);
            is("all", x.rings(), 255);
            row(8);
        });
    }

    private static void ringTold() {
        edge(28, "The shortest RING in which an owner is: how many owners; the ROW: they, from it on (of as short ones the least row).", () -> {
            begun(2);
            ring(0, 1);
            is("two", x.ring(1), 2);
            row(1, 0);
            is("two", x.ring(0), 2);
            row(0, 1);
            anew();
            begun(8);
            ring(0, 7);
            is("eight", x.ring(7), 8);
            row(7, 0, 1, 2, 3, 4, 5, 6);
            anew();
            begun(4);
            gets(1, 21, S);
            gets(3, 21, S);
            gets(2, 22, X);
            stuck(1, 22, S, 22);
            stuck(3, 22, S, 22);
            stuck(2, 21, X, 21);
            is("of two as short ones", x.ring(2), 2);
            row(2, 1);
            is("the other one", x.ring(3), 2);
            row(3, 2);
            shorterOne();
        });
        edge(28, "-2: it is in none;", () -> {
            begun(3);
            is("it runs", x.ring(0), -2);
            is("away", x.ring(7), -2);
            ring(0, 1);
            stuck(2, 21, S, 21);
            is("it waits for one that is in one", x.ring(2), -2);
        });
        edge(28, "NONE: none such.", () -> {
            int[] owners = {-1, 8, LEAST, GREATEST};
            for (int o : owners) {
                is("owner", x.ring(o), NONE);
            }
        });
    }

    /** 3 waits for 0 and 4; 0 waits for 1, who waits for 3; 4 waits for 3: the shortest is the greater row; then the other way. */
    private static void shorterOne() {
        anew();
        begun(5);
        gets(0, 21, S);
        gets(4, 21, S);
        gets(1, 22, X);
        gets(3, 23, X);
        stuck(0, 22, S, 22);
        stuck(1, 23, S, 23);
        gets(3, 24, X);
        stuck(4, 24, S, 24);
        stuck(3, 21, X, 21);
        is("shorter", x.ring(3), 2);
        row(3, 4);
        is("the longer one", x.ring(0), 3);
        row(0, 1, 3);
        anew();
        begun(8);
        gets(0, 21, S);
        gets(4, 21, S);
        gets(1, 22, X);
        gets(3, 23, X);
        stuck(4, 22, S, 22);
        stuck(1, 23, S, 23);
        gets(3, 24, X);
        stuck(0, 24, S, 24);
        stuck(3, 21, X, 21);
        is("the shorter one is the least row", x.ring(3), 2);
        row(3, 0);
        is("the longer one", x.ring(4), 3);
        row(4, 1, 3);
        ring(6, 7);
        is("the last two", x.ring(6), 2);
        row(6, 7);
        is("the last two", x.ring(7), 2);
        row(7, 6);
    }

    private static void victim() {
        edge(29, "The owner that fells() would fell first: it; the ROW: COST.", () -> {
            begun(4);
            ring(0, 1);
            ring(2, 3);
            is("of equal ones the greatest AGE", x.victim(), 3);
            row(4);
            rule("i-9");
            is("the least COST", x.victim(), 0);
            row(-9);
            rule("128*256*256*256");
            is("the least int", x.victim(), 3);
            row(LEAST);
            rule("(i=2)*128*256*256*256");
            is("the least int", x.victim(), 2);
            row(LEAST);
        });
        edge(29, "-2: there is no RING.", () -> {
            is("none", x.victim(), -2);
            begun(2);
            gets(0, 0, X);
            stuck(1, 0, X, 0);
            is("one waits", x.victim(), -2);
        });
    }

    private static void frees() {
        edge(30, "The fewest owners that would have to GO (one behind the other, by their numbers; not the one itself) so that an owner that waits runs:"
            + " how many; the ROW: they (bits; of as few the least).", () -> {
            begun(8);
            for (int o = 0; o < 7; o++) {
                gets(o, 84, S);
            }
            stuck(7, 84, X, 84);
            is("all others", x.frees(7), 7);
            row(127);
            anew();
            begun(8);
            gets(3, 1, S);
            stuck(5, 1, IX, 1);
            stuck(1, 1, IS, 1);
            is("of two the least", x.frees(1), 1);
            row(8);
            anew();
            begun(8);
            gets(5, 1, S);
            stuck(3, 1, IX, 1);
            stuck(1, 1, IS, 1);
            is("of two the least", x.frees(1), 1);
            row(8);
            anew();
            begun(3);
            ring(0, 1);
            is("the other one", x.frees(0), 1);
            row(2);
            is("the other one", x.frees(1), 1);
            row(1);
            stillWaiting();
        });
        edge(30, "-2: it does not wait;", () -> {
            begun(1);
            is("it runs", x.frees(0), -2);
            is("away", x.frees(7), -2);
        });
        edge(30, "NONE: none such.", () -> {
            int[] owners = {-1, 8, LEAST, GREATEST};
            for (int o : owners) {
                is("owner", x.frees(o), NONE);
            }
        });
    }

    /** 2 is granted its TABLE when 0 goes, and waits at the ROW then: it runs when 1 goes, too. */
    private static void stillWaiting() {
        anew();
        begun(3);
        gets(0, 1, SIX);
        gets(1, 21, S);
        stuck(2, 21, X, 1);
        is("both", x.frees(2), 2);
        row(3);
        is("nothing is done", x.waits(2), 1);
    }

    private static void drains() {
        edge(31, "All who run GO, the least number first, one behind the other, those, too, who run by it, till none runs: how many did;", () -> {
            is("none", x.drains(), 0);
            row(0);
            begun(8);
            gets(4, 84, X);
            for (int o = 7; o >= 0; o--) {
                if (o != 4) {
                    stuck(o, 84, X, 84);
                }
            }
            is("all", x.drains(), 8);
            row(4, 7, 6, 5, 3, 2, 1, 0, 0);
            is("nothing is done", x.count(0), 16);
            anew();
            begun(4);
            gets(2, 84, X);
            stuck(0, 84, S, 84);
            is("the least number of those who run then", x.drains(), 4);
            row(1, 2, 0, 3, 0);
        });
        edge(31, "the ROW: they, in turn (the first 12 alone), then who waits yet (bits).", () -> {
            begun(8);
            ring(0, 6);
            is("one", x.drains(), 1);
            row(7, 127);
            anew();
            begun(2);
            ring(0, 1);
            is("none runs", x.drains(), 0);
            row(3);
        });
    }

    private static void saves() {
        edge(32, "At how many PLACES an owner would hold something no more, if it GATHERED at a PLACE (not a ROW): at how many;", () -> {
            begun(1);
            for (int p = 21; p <= 24; p++) {
                gets(0, p, S);
            }
            gets(0, 84, S);
            is("a PAGE", x.saves(0, 5), 4);
            is("a TABLE", x.saves(0, 1), 5);
            is("the last PAGE", x.saves(0, 20), 1);
            is("THE BASE", x.saves(0, 0), 9);
            is("the first ROW", x.saves(0, 21), NONE);
        });
        edge(32, "the ROW: what it would hold there, 1 if it runs and could now, else 0.", () -> {
            begun(3);
            gets(0, 21, S);
            is("it could", x.saves(0, 5), 1);
            row(S, 1);
            gets(1, 22, X);
            is("it could not", x.saves(0, 5), 1);
            row(S, 0);
            is("X", x.saves(1, 5), 1);
            row(X, 0);
            gets(0, 84, S);
            is("elsewhere it could", x.saves(0, 4), 2);
            row(S, 1);
            stuck(0, 22, S, 22);
            is("it waits", x.saves(0, 4), 2);
            row(S, 0);
            gets(2, 25, IX);
            gets(2, 6, S);
            is("X there", x.saves(2, 6), 1);
            row(X, 1);
        });
        edge(32, "-2: it is away, or holds nothing BELOW;", () -> {
            begun(1);
            is("away", x.saves(7, 0), -2);
            is("nothing", x.saves(0, 0), -2);
            gets(0, 20, S);
            is("nothing BELOW", x.saves(0, 20), -2);
            is("nothing BELOW another one", x.saves(0, 3), -2);
        });
        edge(32, "NONE: others.", () -> {
            begun(1);
            gets(0, 84, S);
            int[] places = {-1, 21, 84, 85, LEAST, GREATEST};
            for (int p : places) {
                is("PLACE", x.saves(0, p), NONE);
            }
            int[] owners = {-1, 8, LEAST, GREATEST};
            for (int o : owners) {
                is("owner", x.saves(o, 0), NONE);
            }
        });
    }

    private static void holds() {
        edge(33, "PLACES at which an owner holds something, by their numbers, from one on: how many there are from it on;", () -> {
            is("away", x.holds(7, 0), 0);
            row();
            x.begins(7);
            gets(7, 84, S);
            is("all", x.holds(7, 0), 4);
            row(0, 4, 20, 84);
            is("from it on", x.holds(7, 4), 3);
            row(4, 20, 84);
            is("behind it", x.holds(7, 5), 2);
            row(20, 84);
            is("the last", x.holds(7, 84), 1);
            row(84);
            x.unlocks(7, 84);
            is("none", x.holds(7, 84), 0);
            row();
        });
        edge(33, "the ROW: the first 12 of them.", () -> {
            begun(1);
            for (int p = 21; p <= 28; p++) {
                gets(0, p, S);
            }
            is("twelve", x.holds(0, 0), 12);
            row(0, 1, 5, 6, 21, 22, 23, 24, 25, 26, 27, 28);
            gets(0, 84, S);
            is("fifteen", x.holds(0, 0), 15);
            row(0, 1, 4, 5, 6, 20, 21, 22, 23, 24, 25, 26);
            is("thirteen", x.holds(0, 4), 13);
            row(4, 5, 6, 20, 21, 22, 23, 24, 25, 26, 27, 28);
            is("twelve", x.holds(0, 5), 12);
            row(5, 6, 20, 21, 22, 23, 24, 25, 26, 27, 28, 84);
        });
        edge(33, "NONE: none such.", () -> {
            int[] places = {-1, 85, LEAST, GREATEST};
            for (int p : places) {
                is("PLACE", x.holds(0, p), NONE);
            }
            int[] owners = {-1, 8, LEAST, GREATEST};
            for (int o : owners) {
                is("owner", x.holds(o, 0), NONE);
            }
        });
    }

    private static void common() {
        edge(34, "the ROW: the first one (85: none), at how many of them one of the two waits.", () -> {
            is("none", x.common(0, 7), 0);
            row(85, 0);
            begun(8);
            gets(7, 84, IS);
            is("none", x.common(0, 7), 0);
            row(85, 0);
            gets(0, 84, IX);
            is("four", x.common(0, 7), 4);
            row(0, 0);
            stuck(7, 84, S, 84);
            is("the one waits", x.common(7, 0), 4);
            row(0, 1);
            is("the other waits", x.common(0, 7), 4);
            row(0, 1);
        });
        edge(34, "NONE: none such, like ones.", () -> {
            begun(1);
            for (int o = 0; o < 8; o++) {
                is("like ones", x.common(o, o), NONE);
            }
            int[] owners = {-1, 8, LEAST, GREATEST};
            for (int o : owners) {
                is("the one", x.common(o, 0), NONE);
                is("the other", x.common(0, o), NONE);
                is("like ones", x.common(o, o), NONE);
            }
        });
    }

    private static void queues() {
        edge(35, "At how many PLACES there is a QUEUE (of 1 REQUEST at least): at how many;", () -> {
            is("none", x.queues(), 0);
            begun(8);
            gets(0, 84, X);
            is("held alone", x.queues(), 0);
            stuck(1, 84, S, 84);
            is("one of one", x.queues(), 1);
            stuck(2, 84, S, 84);
            is("one of two", x.queues(), 1);
            stuck(3, 0, S, 0);
            is("two", x.queues(), 2);
        });
        edge(35, "(of as many the first; nothing without), how many of all REQUESTS are CHANGES (nothing without).", () -> {
            is("nothing", x.queues(), 0);
            row();
            begun(8);
            gets(0, 83, S);
            gets(1, 83, S);
            gets(2, 84, X);
            stuck(3, 84, S, 84);
            is("one", x.queues(), 1);
            row(84, 0);
            stuck(1, 83, X, 83);
            is("of as many the first", x.queues(), 2);
            row(83, 1);
            stuck(4, 84, S, 84);
            is("the one with the most", x.queues(), 2);
            row(84, 1);
            stuck(0, 83, U, 83);
            is("as many: the first", x.queues(), 2);
            row(83, 2);
            x.ends(6);
            gets(7, 0, IS);
            stuck(7, 0, S, 0);
            is("three", x.queues(), 3);
            row(83, 3);
            stuck(5, 0, S, 0);
            is("of as many the first", x.queues(), 3);
            row(0, 3);
        });
    }

    private static void summed() {
        edge(36, "at first 7; by each mode (0, too): 31 times it, and the mode (as ints): 0; the ROW: it.", () -> {
            int due = 7;
            for (int i = 0; i < 85 * 8; i++) {
                due *= 31;
            }
            is("sum", x.sum(), 0);
            row(due);
            x.begins(7);
            gets(7, 84, X);
            x.sum();
            int last = 7;
            for (int p = 0; p <= 84; p++) {
                for (int o = 0; o < 8; o++) {
                    boolean above = p == 0 || p == 4 || p == 20;
                    last = 31 * last + (o < 7 ? 0 : p == 84 ? X : above ? IX : 0);
                }
            }
            row(last);
            x.begins(0);
            gets(0, 0, IX);
            x.sum();
            int first = 7;
            for (int p = 0; p <= 84; p++) {
                for (int o = 0; o < 8; o++) {
                    boolean above = p == 0 || p == 4 || p == 20;
                    first = 31 * first + (o == 0 && p == 0 ? IX : o < 7 ? 0 : p == 84 ? X : above ? IX : 0);
                }
            }
            row(first);
        });
    }

    private static void lawTold() {
        edge(37, "THE TEXT is another RULE (an empty one: none): whom fells() would fell first by it (8: there is no RING);", () -> {
            is("no RING", law("w"), 8);
            is("none", law(""), 8);
            begun(4);
            x.works(3, 5);
            ring(0, 1);
            ring(2, 3);
            rule("i");
            is("by THE RULE", x.victim(), 0);
            is("by another one", law("0-i"), 3);
            is("by none", law(""), 2);
            is("THE RULE stays", x.victim(), 0);
        });
        edge(37, "the ROW: COST of that one by it (0 without), how many it would fell in all by it, by THE RULE.", () -> {
            law("7");
            row(0, 0, 0);
            law("");
            row(0, 0, 0);
            begun(4);
            gets(0, 21, S);
            gets(1, 21, S);
            gets(2, 22, X);
            stuck(0, 22, S, 22);
            stuck(1, 22, S, 22);
            stuck(2, 21, X, 21);
            is("who is in both", law("2-i"), 2);
            row(0, 1, 1);
            is("one behind the other", law("i-9"), 0);
            row(-9, 2, 1);
            rule("i");
            is("by THE RULE two", law("0-i"), 2);
            row(-2, 1, 2);
            is("none: w+h", law(""), 2);
            row(4, 1, 2);
        });
        edge(37, "-100 - p: the sign at p can't stand there (as rule()).", () -> {
            is("the first", law("!"), -100);
            is("the second", law("w!"), -101);
            is("too early", law("w+"), -102);
            is("40 signs, too early", law(times("w+", 20)), -140);
            is("41 signs", law(times("w+", 20) + "w"), -140);
            is("the 40th", law(times("w+", 19) + "w!"), -139);
            is("40 signs", law(times("w+", 19) + "10"), 8);
            is("five brackets", law("(((((w)))))"), -104);
        });
    }

    private static int r;

    private static int draw(int n) {
        r = r * 1103515245 + 12345;
        return (int) (Integer.toUnsignedLong(r) / 65536 % n);
    }

    /** On a desk where all hold and some wait in RINGS, as yearsByHand() makes it too. */
    private static void busy(Used y) {
        for (int o = 0; o < 7; o++) {
            y.begins(o);
            y.locks(o, 21 + 5 * o, S);
        }
        y.locks(0, 26, X);
        y.locks(1, 21, X);
        y.locks(2, 0, S);
        y.works(3, 9);
    }

    private static void yearsByHand(int seed, int n, boolean busy) {
        anew();
        Used y = new Used();
        if (busy) {
            busy(x);
            busy(y);
        }
        r = seed;
        for (int i = 0; i < n; i++) {
            int what = draw(6);
            int owner = draw(8);
            if (what == 0) {
                y.begins(owner);
            } else if (what < 4) {
                int place = draw(85);
                int mode = draw(6) + 1;
                y.locks(owner, place, mode);
            } else if (what == 4) {
                y.works(owner, draw(9) + 1);
            } else {
                int which = draw(3);
                if (which == 0) {
                    y.ends(owner);
                } else if (which == 1) {
                    y.fells();
                } else {
                    y.gathers(owner, draw(21));
                }
            }
        }
        String name = "years(" + seed + ", " + n + ")";
        is(name, x.years(seed, n), Integer.bitCount(y.count(1)));
        y.sum();
        row(y.row(0), y.count(0), y.count(6));
        is("nothing to undo more, by " + name, x.count(7), busy ? 10 : 0);
    }

    private static void years() {
        edge(38, "n times (1 .. 40) what would be done:", () -> {
            is("once", x.years(1, 1) >= 0, true);
            is("forty times", x.years(1, 40) >= 0, true);
            for (int n = 1; n <= 40; n++) {
                yearsByHand(n * 77, n, true);
            }
        });
        edge(38, "A DRAW of n: R = R times 1103515245 + 12345 (as ints; R is seed at first), (R without sign, by 65536) % n.", () -> {
            int[] seeds = {0, 1, -1, LEAST, GREATEST, LEAST + 1, GREATEST - 1, 65535, 65536, -65536, 12345};
            for (int seed : seeds) {
                yearsByHand(seed, 40, false);
                yearsByHand(seed, 40, true);
                yearsByHand(seed, 1, true);
            }
        });
        edge(38, "5: a DRAW of 3: 0: ends(), 1: fells(), 2: gathers() at a DRAW of 21 (what is refused is not done):", () -> {
            for (int seed = 100; seed < 300; seed++) {
                yearsByHand(seed, 40, true);
            }
        });
        edge(38, "NONE: another n.", () -> {
            int[] others = {0, 41, -1, LEAST, GREATEST};
            for (int n : others) {
                is("n", x.years(7, n), NONE);
            }
        });
    }

    private static void keep() {
        edge(39, "What undo() brings back is kept under a number 0 .. 2: true.", () -> {
            begun(1);
            is("0", x.keep(0), true);
            x.works(0, 1);
            is("1", x.keep(1), true);
            x.works(0, 1);
            is("2", x.keep(2), true);
            x.ends(0);
            for (int i = 2; i >= 0; i--) {
                is("again", x.again(i), true);
                is("WORK", x.owner(0, 2), i);
            }
            x.works(0, 9);
            is("kept anew", x.keep(0), true);
            x.ends(0);
            is("again", x.again(0), true);
            is("WORK", x.owner(0, 2), 9);
            is("the others stay", x.again(2), true);
            is("WORK", x.owner(0, 2), 2);
            is("it can't be undone", x.undo(), NONE);
        });
        edge(39, "Refused: others.", () -> {
            int[] others = {-1, 3, LEAST, GREATEST};
            for (int i : others) {
                is("another one", x.keep(i), false);
                is("nothing is kept there", x.again(i), false);
            }
        });
    }

    private static void again() {
        edge(40, "It is as it was kept under a number.", () -> {
            begun(3);
            ring(0, 1);
            x.fells();
            x.begins(1);
            gets(1, 40, IS);
            gets(2, 40, IX);
            stuck(0, 40, S, 40);
            stuck(1, 40, S, 40);
            x.bulk(3);
            x.works(2, 3);
            x.keep(0);
            String before = picture();
            rule("7");
            x.ends(2);
            x.ends(0);
            x.bulk(2);
            x.modes(IX, S);
            x.say("SIX");
            is("again", x.again(0), true);
            row(SIX, 0);
            is("THE TEXT stays", x.named(), SIX);
            is("THE RULE stays", x.owner(7, 5), 7);
            is("as it was", picture().equals(before), true);
            is("the QUEUE", x.queue(40), 2);
            row(1, 0);
            is("how many began", x.begins(7), 5);
        });
        edge(40, "Refused: nothing kept.", () -> {
            for (int i = 0; i < 3; i++) {
                is("nothing kept", x.again(i), false);
            }
            x.keep(1);
            is("nothing kept", x.again(0), false);
            is("kept", x.again(1), true);
            is("nothing kept", x.again(2), false);
            int[] others = {-1, 3, LEAST, GREATEST};
            for (int i : others) {
                is("another one", x.again(i), false);
            }
        });
    }

    /** All eight, with what each does when it runs. */
    private static void againAll() {
        edge(40, "It is as it was kept under a number.", () -> {
            eight();
            x.keep(2);
            String before = picture();
            x.ends(7);
            x.begins(7);
            gets(7, 61, X);
            gets(3, 62, X);
            stuck(3, 61, S, 61);
            stuck(7, 62, S, 62);
            rule("0-i");
            is("two of two RINGS", x.fells(), 2);
            row(7, 2);
            rule("");
            is("FALLS", x.owner(7, 3), 2);
            x.begins(7);
            x.works(7, 9);
            stuck(7, 37, X, 37);
            x.ends(0);
            x.begins(0);
            stuck(0, 37, IS, 37);
            is("it is not as it was", picture().equals(before), false);
            is("again", x.again(2), true);
            is("as it was", picture().equals(before), true);
            is("the QUEUE at 21", x.queue(21), 2);
            row(7, 6);
            x.ends(5);
            held(0, 84, U);
            is("begins", x.begins(4), 11);
            x.ends(3);
            x.ends(6);
            held(7, 21, SIX);
        });
    }

    private static void count() {
        edge(41, "What 0: who runs (bits), 1: who waits (bits), 2: how many began, 3: BULK, 4: REQUESTS in all QUEUES, 5: modes that are held, 6: FALLS of all,"
            + " 7: what can be undone, 8: numbers of the ROW, 9: signs of THE TEXT.", () -> {
            int[] first = {0, 0, 0, 5, 0, 0, 0, 0, 0, 0};
            for (int what = 0; what < 10; what++) {
                is("at first, count(" + what + ")", x.count(what), first[what]);
            }
            begun(8);
            ring(0, 1);
            ring(6, 7);
            x.fells();
            stuck(2, 21, S, 21);
            x.bulk(4);
            x.holds(0, 0);
            x.sign(0);
            int[] then = {0x79, 4, 8, 4, 1, 13, 2, 10, 5, 4};
            for (int what = 0; what < 10; what++) {
                is("count(" + what + ")", x.count(what), then[what]);
            }
            x.ends(0);
            x.ends(2);
            x.begins(1);
            x.begins(7);
            x.begins(0);
            ring(0, 1);
            rule("i");
            x.fells();
            is("FALLS of the first, too", x.count(6), 3);
            gets(7, 84, X);
            stuck(6, 84, S, 84);
            is("what the last holds, too", x.count(5), 5 + 4 + 7);
            is("who waits", x.count(1), 64);
            stuck(7, 27, X, 27);
            is("who waits", x.count(1), 192);
            is("REQUESTS", x.count(4), 2);
            is("who runs", x.count(0), 58);
        });
        edge(41, "-100 for another what.", () -> {
            int[] others = {-1, 10, LEAST, GREATEST};
            for (int what : others) {
                is("another what", x.count(what), -100);
            }
        });
    }

    private static void toldRow() {
        edge(42, "Number i of the ROW.", () -> {
            begun(1);
            for (int p = 21; p <= 32; p++) {
                gets(0, p, S);
            }
            x.holds(0, 5);
            is("the first", x.row(0), 5);
            is("the last", x.row(11), 29);
            is("behind it", x.row(12), THROWS);
            rule("128*256*256*256");
            x.ends(0);
            begunAgain();
            x.victim();
            is("a least int", x.row(0), LEAST);
        });
        edge(42, "NoSuchElementException: none such.", () -> {
            is("none told yet", x.row(0), THROWS);
            x.sum();
            is("one told", x.row(1), THROWS);
            is("below 0", x.row(-1), THROWS);
            is("far below 0", x.row(LEAST), THROWS);
            is("far behind it", x.row(GREATEST), THROWS);
            x.queues();
            is("an empty one", x.row(0), THROWS);
        });
    }

    private static void begunAgain() {
        x.begins(0);
        x.begins(1);
        ring(0, 1);
    }
}
