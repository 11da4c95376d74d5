/** Refused calls and questions change nothing: each call by itself, on a desk on which much stands. */
public final class RefusedTest extends Edges {
    private static final String REFUSED = "Refused calls answer NONE, or false, and change nothing but THE TEXT, which a call that reads it empties.";
    private static final String NONE_FIRST = "NONE comes ahead of other answers below 0;";
    private static final String ROW_STAYS = "the ROW stays with each answer below 0.";
    private static final String QUESTIONS = "Questions change nothing.";

    private interface Call {
        long on();
    }

    public static void main(String[] args) {
        readDocument();
        refusedActs();
        refusedPlaces();
        refusedQuestions();
        refusedOwners();
        refusedTexts();
        reading();
        refusedWithout();
        noneFirst();
        throwing();
        questionsOfHolding();
        questionsOfWaiting();
        questionsOfTexts();
        sets();
        finish();
    }

    /** 0 and 1 are in a RING, 3 waits with a CHANGE, 4 behind it; 5 runs and holds, 6 runs, 7 is away. */
    private static void scene() {
        begun(7);
        gets(0, 21, X);
        gets(1, 22, X);
        stuck(0, 22, S, 22);
        stuck(1, 21, S, 21);
        gets(2, 41, S);
        gets(3, 41, S);
        stuck(3, 41, X, 41);
        stuck(4, 41, IS, 41);
        gets(5, 61, X);
        x.works(5, 7);
        is("bulk", x.bulk(3), 15);
        is("keep", x.keep(1), true);
    }

    /** The row that a call ahead of it has told: IX and S. */
    private static void told() {
        x.modes(IX, S);
    }

    private static void toldStays() {
        row(SIX, 0);
    }

    private static void refused(String name, long due, Call call) {
        edge(TERMS, REFUSED, () -> {
            scene();
            String before = whole();
            told();
            x.say("SIX");
            is(name, call.on(), due);
            is("signs behind " + name, x.count(9), 3);
            is("THE TEXT behind " + name, x.named(), SIX);
            is("as it was behind " + name, whole().equals(before), true);
        });
        edge(TERMS, ROW_STAYS, () -> {
            scene();
            told();
            is(name, call.on(), due);
            toldStays();
        });
    }

    private static void refusedActs() {
        refused("begins(0)", -2, () -> x.begins(0));
        refused("begins(5)", -2, () -> x.begins(5));
        refused("begins(8)", NONE, () -> x.begins(8));
        refused("begins(-1)", NONE, () -> x.begins(-1));
        refused("works(7, 1)", -2, () -> x.works(7, 1));
        refused("works(0, 1)", -3, () -> x.works(0, 1));
        refused("works(5, 0)", NONE, () -> x.works(5, 0));
        refused("works(5, 10)", NONE, () -> x.works(5, 10));
        refused("works(8, 1)", NONE, () -> x.works(8, 1));
        refused("works(-1, 1)", NONE, () -> x.works(-1, 1));
        refused("ends(7)", -2, () -> x.ends(7));
        refused("ends(8)", NONE, () -> x.ends(8));
        refused("ends(-1)", NONE, () -> x.ends(-1));
        refused("bulk(3)", -2, () -> x.bulk(3));
        refused("bulk(1)", NONE, () -> x.bulk(1));
        refused("bulk(6)", NONE, () -> x.bulk(6));
        refused("keep(3)", 0, () -> x.keep(3) ? 1 : 0);
        refused("keep(-1)", 0, () -> x.keep(-1) ? 1 : 0);
        refused("again(0)", 0, () -> x.again(0) ? 1 : 0);
        refused("again(3)", 0, () -> x.again(3) ? 1 : 0);
        refused("again(-1)", 0, () -> x.again(-1) ? 1 : 0);
    }

    private static void refusedPlaces() {
        refused("locks(7, 0, IS)", -2, () -> x.locks(7, 0, IS));
        refused("locks(0, 0, IS)", -3, () -> x.locks(0, 0, IS));
        refused("locks(5, 85, IS)", NONE, () -> x.locks(5, 85, IS));
        refused("locks(5, -1, IS)", NONE, () -> x.locks(5, -1, IS));
        refused("locks(5, 0, 0)", NONE, () -> x.locks(5, 0, 0));
        refused("locks(5, 0, 7)", NONE, () -> x.locks(5, 0, 7));
        refused("locks(8, 0, IS)", NONE, () -> x.locks(8, 0, IS));
        refused("locks(-1, 0, IS)", NONE, () -> x.locks(-1, 0, IS));
        refused("unlocks(7, 0)", -2, () -> x.unlocks(7, 0));
        refused("unlocks(0, 21)", -3, () -> x.unlocks(0, 21));
        refused("unlocks(5, 1)", -4, () -> x.unlocks(5, 1));
        refused("unlocks(5, 0)", -5, () -> x.unlocks(5, 0));
        refused("unlocks(5, 85)", NONE, () -> x.unlocks(5, 85));
        refused("unlocks(5, -1)", NONE, () -> x.unlocks(5, -1));
        refused("unlocks(8, 0)", NONE, () -> x.unlocks(8, 0));
        refused("unlocks(-1, 0)", NONE, () -> x.unlocks(-1, 0));
        refused("gathers(7, 0)", -2, () -> x.gathers(7, 0));
        refused("gathers(0, 5)", -3, () -> x.gathers(0, 5));
        refused("gathers(6, 0)", -4, () -> x.gathers(6, 0));
        refused("gathers(5, 0)", -4, () -> x.gathers(5, 0));
        refused("gathers(5, 21)", NONE, () -> x.gathers(5, 21));
        refused("gathers(5, -1)", NONE, () -> x.gathers(5, -1));
        refused("gathers(8, 0)", NONE, () -> x.gathers(8, 0));
        refused("gathers(-1, 0)", NONE, () -> x.gathers(-1, 0));
    }

    private static void refusedQuestions() {
        refused("modes(7, 0)", NONE, () -> x.modes(7, 0));
        refused("modes(0, 7)", NONE, () -> x.modes(0, 7));
        refused("modes(-1, 0)", NONE, () -> x.modes(-1, 0));
        refused("modes(0, -1)", NONE, () -> x.modes(0, -1));
        refused("holders(85)", NONE, () -> x.holders(85));
        refused("holders(-1)", NONE, () -> x.holders(-1));
        refused("queue(85)", NONE, () -> x.queue(85));
        refused("queue(-1)", NONE, () -> x.queue(-1));
        refused("covers(0, 85)", NONE, () -> x.covers(0, 85));
        refused("covers(0, -1)", NONE, () -> x.covers(0, -1));
        refused("covers(8, 0)", NONE, () -> x.covers(8, 0));
        refused("covers(-1, 0)", NONE, () -> x.covers(-1, 0));
        refused("may(7, 0, IS)", -2, () -> x.may(7, 0, IS));
        refused("may(0, 0, IS)", -2, () -> x.may(0, 0, IS));
        refused("may(5, 0, 7)", NONE, () -> x.may(5, 0, 7));
        refused("may(5, 0, 0)", NONE, () -> x.may(5, 0, 0));
        refused("may(5, 85, IS)", NONE, () -> x.may(5, 85, IS));
        refused("may(5, -1, IS)", NONE, () -> x.may(5, -1, IS));
        refused("may(8, 0, IS)", NONE, () -> x.may(8, 0, IS));
        refused("may(-1, 0, IS)", NONE, () -> x.may(-1, 0, IS));
        refused("free(7, 1, IS)", -2, () -> x.free(7, 1, IS));
        refused("free(0, 1, IS)", -2, () -> x.free(0, 1, IS));
        refused("free(5, 0, IS)", NONE, () -> x.free(5, 0, IS));
        refused("free(5, 5, IS)", NONE, () -> x.free(5, 5, IS));
        refused("free(5, 1, 0)", NONE, () -> x.free(5, 1, 0));
        refused("free(5, 1, 7)", NONE, () -> x.free(5, 1, 7));
        refused("free(8, 1, IS)", NONE, () -> x.free(8, 1, IS));
        refused("free(-1, 1, IS)", NONE, () -> x.free(-1, 1, IS));
        refused("years(1, 0)", NONE, () -> x.years(1, 0));
        refused("years(1, 41)", NONE, () -> x.years(1, 41));
        refused("years(1, -1)", NONE, () -> x.years(1, -1));
        refused("count(10)", -100, () -> x.count(10));
        refused("count(-1)", -100, () -> x.count(-1));
    }

    private static void refusedOwners() {
        refused("waits(5)", -2, () -> x.waits(5));
        refused("waits(7)", -2, () -> x.waits(7));
        refused("waits(8)", NONE, () -> x.waits(8));
        refused("waits(-1)", NONE, () -> x.waits(-1));
        refused("behind(8)", NONE, () -> x.behind(8));
        refused("behind(-1)", NONE, () -> x.behind(-1));
        refused("stops(8)", NONE, () -> x.stops(8));
        refused("stops(-1)", NONE, () -> x.stops(-1));
        refused("ring(3)", -2, () -> x.ring(3));
        refused("ring(7)", -2, () -> x.ring(7));
        refused("ring(8)", NONE, () -> x.ring(8));
        refused("ring(-1)", NONE, () -> x.ring(-1));
        refused("frees(5)", -2, () -> x.frees(5));
        refused("frees(7)", -2, () -> x.frees(7));
        refused("frees(8)", NONE, () -> x.frees(8));
        refused("frees(-1)", NONE, () -> x.frees(-1));
        refused("saves(7, 0)", -2, () -> x.saves(7, 0));
        refused("saves(6, 0)", -2, () -> x.saves(6, 0));
        refused("saves(5, 21)", NONE, () -> x.saves(5, 21));
        refused("saves(5, -1)", NONE, () -> x.saves(5, -1));
        refused("saves(8, 0)", NONE, () -> x.saves(8, 0));
        refused("saves(-1, 0)", NONE, () -> x.saves(-1, 0));
        refused("holds(5, 85)", NONE, () -> x.holds(5, 85));
        refused("holds(5, -1)", NONE, () -> x.holds(5, -1));
        refused("holds(8, 0)", NONE, () -> x.holds(8, 0));
        refused("holds(-1, 0)", NONE, () -> x.holds(-1, 0));
        refused("common(5, 5)", NONE, () -> x.common(5, 5));
        refused("common(5, 8)", NONE, () -> x.common(5, 8));
        refused("common(8, 5)", NONE, () -> x.common(8, 5));
        refused("common(-1, 5)", NONE, () -> x.common(-1, 5));
        refused("common(5, -1)", NONE, () -> x.common(5, -1));
    }

    /** A call that reads THE TEXT: it is empty behind it, all else is as it was. */
    private static void empties(String name, String text, long due, Call call) {
        edge(TERMS, REFUSED, () -> {
            scene();
            rule("7");
            String before = whole();
            told();
            x.say(text);
            is(name + " of " + text, call.on(), due);
            is("signs behind it", x.count(9), 0);
            is("an empty name", x.named(), 0);
            toldStays();
            is("as it was", whole().equals(before), true);
            is("THE RULE", x.owner(0, 5), 7);
        });
    }

    private static void refusedTexts() {
        empties("rule()", "w+", -3, () -> x.rule());
        empties("rule()", "z", -1, () -> x.rule());
        empties("rule()", times("w+", 20) + "w", -41, () -> x.rule());
        empties("named()", "SI", NONE, () -> x.named());
        empties("day()", "b7w7", -5, () -> x.day());
        empties("day()", "b7z", -3, () -> x.day());
        empties("law()", "(w", -102, () -> x.law());
        empties("law()", "w)", -101, () -> x.law());
        edge(TERMS, REFUSED, () -> {
            scene();
            x.say("SIX");
            is("end(4)", x.end(4), false);
            is("end(-1)", x.end(-1), false);
            is("signs", x.count(9), 3);
            is("named", x.named(), SIX);
            x.say(times("w+", 19) + "w" + times(" ", 41));
            is("sign()", x.sign(0), NONE);
            is("signs", x.count(9), 80);
            x.end(39);
            is("its signs are as they were", x.rule(), 0);
        });
    }

    /** Not refused, it empties THE TEXT, too. */
    private static void reads(String name, String text, long due, Call call) {
        edge(TERMS, "THE TEXT, which a call that reads it empties.", () -> {
            x.say(text);
            is(name, call.on(), due);
            is("signs behind " + name, x.count(9), 0);
            is("signs", x.sign('U' << 24), 4);
            x.end(1);
            is("none of them is left", x.named(), U);
        });
    }

    private static void reading() {
        reads("rule()", "w*7", 0, () -> x.rule());
        reads("named()", "SIX", SIX, () -> x.named());
        reads("day()", "b0w09", 2, () -> x.day());
        reads("day() of which one is refused", "b0b0", 1, () -> x.day());
        reads("day() of which the first is refused", "e0", 0, () -> x.day());
        reads("law()", "w*7", 8, () -> x.law());
    }

    private static void refusedWithout() {
        edge(TERMS, REFUSED, () -> {
            scene();
            is("again", x.again(1), true);
            String before = whole();
            told();
            is("nothing to undo", x.undo(), NONE);
            toldStays();
            is("as it was", whole().equals(before), true);
        });
        edge(TERMS, ROW_STAYS, () -> {
            begun(1);
            told();
            is("victim()", x.victim(), -2);
            toldStays();
            is("ring()", x.ring(0), -2);
            toldStays();
            is("undo()", x.undo(), 0);
            is("undo()", x.undo(), NONE);
            toldStays();
        });
    }

    private static void noneFirst() {
        Call[] calls = {() -> x.works(7, 0), () -> x.works(7, 10), () -> x.works(0, 0), () -> x.works(0, 10), () -> x.locks(7, 85, IS),
            () -> x.locks(7, -1, IS), () -> x.locks(7, 0, 0), () -> x.locks(7, 0, 7), () -> x.locks(0, 85, IS), () -> x.locks(0, -1, IS),
            () -> x.locks(0, 0, 0), () -> x.locks(0, 0, 7), () -> x.unlocks(7, 85), () -> x.unlocks(7, -1), () -> x.unlocks(0, 85),
            () -> x.unlocks(0, -1), () -> x.gathers(7, 21), () -> x.gathers(7, -1), () -> x.gathers(0, 21), () -> x.gathers(0, -1),
            () -> x.gathers(6, 21), () -> x.gathers(6, 84), () -> x.gathers(6, 85), () -> x.may(7, 85, IS), () -> x.may(7, -1, IS),
            () -> x.may(7, 0, 0), () -> x.may(7, 0, 7), () -> x.may(0, 85, IS), () -> x.may(0, 0, 0), () -> x.may(0, 0, 7),
            () -> x.free(7, 0, IS), () -> x.free(7, 5, IS), () -> x.free(7, 1, 0), () -> x.free(7, 1, 7), () -> x.free(0, 0, IS),
            () -> x.free(0, 5, IS), () -> x.free(0, 1, 0), () -> x.free(0, 1, 7), () -> x.saves(7, 21), () -> x.saves(7, -1),
            () -> x.saves(6, 21), () -> x.saves(0, 84), () -> x.bulk(GREATEST), () -> x.bulk(LEAST)};
        for (int i = 0; i < calls.length; i++) {
            int k = i;
            edge(TERMS, NONE_FIRST, () -> {
                scene();
                is("call " + k, calls[k].on(), NONE);
            });
        }
    }

    /** Exceptions change nothing, too. */
    private static void throwing() {
        refused("owner(8, 0)", THROWS, () -> x.owner(8, 0));
        refused("owner(0, 6)", THROWS, () -> x.owner(0, 6));
        refused("held(8, 0)", THROWS, () -> x.held(8, 0));
        refused("held(0, 85)", THROWS, () -> x.held(0, 85));
        refused("row(2)", THROWS, () -> x.row(2));
        refused("row(-1)", THROWS, () -> x.row(-1));
    }

    private static void question(String name, long due, Call call) {
        edge(TERMS, QUESTIONS, () -> {
            scene();
            x.say("SIX");
            String before = whole();
            is(name, call.on(), due);
            is("as it was behind " + name, whole().equals(before), true);
            is("THE TEXT behind " + name, x.named(), SIX);
            is("what was kept, behind " + name, x.again(1), true);
            is("as it was kept, behind " + name, whole().equals(before.replace("undo 10", "undo 0")), true);
        });
    }

    private static void questionsOfHolding() {
        question("modes(6, 6)", 0, () -> x.modes(X, X));
        question("owner(0, 5)", 4, () -> x.owner(0, 5));
        question("held(5, 61)", X, () -> x.held(5, 61));
        question("holders(41)", 12, () -> x.holders(41));
        question("queue(41)", 2, () -> x.queue(41));
        question("waits(4)", 41, () -> x.waits(4));
        question("covers(5, 61)", X, () -> x.covers(5, 61));
        question("may(5, 84, X)", 1, () -> x.may(5, 84, X));
        question("may(5, 41, X)", 0, () -> x.may(5, 41, X));
        question("free(5, 3, X)", 0xFFFF, () -> x.free(5, 3, X));
        question("saves(5, 3)", 2, () -> x.saves(5, 3));
        question("saves(3, 2)", 2, () -> x.saves(3, 2));
        question("holds(5, 0)", 4, () -> x.holds(5, 0));
        question("common(2, 3)", 4, () -> x.common(2, 3));
        question("sum()", 0, () -> x.sum());
        question("count(5)", 23, () -> x.count(5));
    }

    private static void questionsOfWaiting() {
        question("behind(4)", 8, () -> x.behind(4));
        question("stops(2)", 24, () -> x.stops(2));
        question("rings()", 3, () -> x.rings());
        question("ring(1)", 2, () -> x.ring(1));
        question("victim()", 1, () -> x.victim());
        question("frees(4)", 1, () -> x.frees(4));
        question("drains()", 5, () -> x.drains());
        question("queues()", 3, () -> x.queues());
    }

    /** How many wait behind forty years is told by hand in EdgeTest; here it is asked alone. */
    private static void questionsOfTexts() {
        for (int seed = 1; seed <= 9; seed++) {
            int k = seed;
            edge(TERMS, QUESTIONS, () -> {
                scene();
                String before = whole();
                is("years", x.years(k, 40) >= 0, true);
                is("as it was", whole().equals(before), true);
            });
        }
        edge(TERMS, QUESTIONS, () -> {
            scene();
            rule("i");
            String before = whole();
            is("law", law("0-i"), 1);
            is("as it was", whole().equals(before), true);
            is("THE RULE", x.owner(5, 5), 5);
            is("victim", x.victim(), 0);
        });
        edge(TERMS, QUESTIONS, () -> {
            scene();
            String before = whole();
            is("named", named("U"), U);
            is("as it was", whole().equals(before), true);
        });
    }

    private static void sets() {
        edge(TERMS, "Sets (of owners) are bits.", () -> {
            begun(8);
            gets(7, 21, S);
            gets(0, 21, S);
            is("holders", x.holders(21), 129);
            stuck(6, 21, X, 21);
            is("behind", x.behind(6), 129);
            is("stops", x.stops(7), 64);
            is("frees", x.frees(6), 2);
            row(129);
            is("who runs", x.count(0), 0xBF);
            is("who waits", x.count(1), 64);
        });
    }
}
