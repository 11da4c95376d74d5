import java.util.NoSuchElementException;

/** A desk of locks over a base, tables, pages and rows. Its promises stand in the project's document. */
public final class LockLadder {
    public static final int NONE = -1;

    private static final int OWNERS = 8;
    private static final int PLACES = 85;
    private static final int NOWHERE = 85;
    private static final int FIRST_ROW = 21;
    private static final int ROW_LEVEL = 3;
    private static final int TABLES = 4;
    private static final int ROWS_OF_TABLE = 16;

    private static final int IS = 1;
    private static final int IX = 2;
    private static final int S = 3;
    private static final int X = 6;
    private static final int MODES = 7;

    private static final int AWAY = 0;
    private static final int RUNS = 1;
    private static final int WAITS = 2;

    private static final int WAITING = 0;
    private static final int DONE = 1;
    private static final int GATHERED = 2;

    private static final int MOST = 99;
    private static final int UNDOABLE = 10;
    private static final int KEEPS = 3;
    private static final int TEXT_SIGNS = 80;
    private static final int RULE_SIGNS = 40;
    private static final int RULE_DEPTH = 4;
    private static final int TOLD_PLACES = 12;
    private static final int MOST_YEARS = 40;

    // The acts of years(), by what is drawn; 'o': one of the others is drawn once more.
    private static final String YEAR_ACTS = "blllwo";
    private static final String OTHER_YEAR_ACTS = "efg";

    // Owners that gather inside one another are all different ones, so eight levels are the most.
    private static final int DEEPEST = 16;

    // Of each mode, as bits: the modes that it goes together with.
    private static final int[] TOGETHER = {127, 63, 7, 43, 3, 11, 1};
    // Of each mode, as bits: the modes that it is as strong as.
    private static final int[] STRONG = {1, 3, 7, 11, 31, 43, 127};
    private static final int[] BOTH = {
        0, 1, 2, 3, 4, 5, 6,
        1, 1, 2, 3, 4, 5, 6,
        2, 2, 2, 4, 4, 6, 6,
        3, 3, 4, 3, 4, 5, 6,
        4, 4, 4, 4, 4, 6, 6,
        5, 5, 6, 5, 6, 5, 6,
        6, 6, 6, 6, 6, 6, 6};
    // As bits: X, which covers all below it, and S, SIX and U, which cover reading.
    private static final int COVERS_ALL = 64;
    private static final int COVERS_READING = 56;

    private final Desk desk;
    private final Desk trial;
    private final State now;
    private final History history;
    private final State[] keeps;
    private final boolean[] kept;
    private final Text text;
    private final Row told;
    private final Rule inForce;
    private final Rule spare;

    public LockLadder() {
        desk = new Desk();
        trial = new Desk();
        now = desk.state;
        history = new History();
        keeps = new State[KEEPS];
        for (int i = 0; i < KEEPS; i++) {
            keeps[i] = new State();
        }
        kept = new boolean[KEEPS];
        text = new Text();
        told = new Row();
        inForce = new Rule();
        spare = new Rule();
    }

    // ---- the rule, modes

    public int sign(int v) {
        return text.addFour(v);
    }

    public boolean end(int n) {
        if (n < 0 || n > text.size) {
            return false;
        }
        text.size = n;
        return true;
    }

    public int rule() {
        int wrong = spare.read(text);
        text.size = 0;
        if (wrong != NONE) {
            return -1 - wrong;
        }
        inForce.copy(spare);
        return 0;
    }

    public int modes(int a, int b) {
        if (!isMode(a) || !isMode(b)) {
            return NONE;
        }
        told.two(BOTH[MODES * a + b], STRONG[a] >>> b & 1);
        return TOGETHER[a] >>> b & 1;
    }

    public int named() {
        int mode = text.modeName();
        text.size = 0;
        return mode;
    }

    public int owner(int owner, int what) throws NoSuchElementException {
        if (!isOwner(owner) || what < 0 || what > 5) {
            throw new NoSuchElementException();
        }
        switch (what) {
            case 0:
                return now.stand[owner];
            case 1:
                return now.age[owner];
            case 2:
                return now.work[owner];
            case 3:
                return now.falls[owner];
            case 4:
                return now.holdings(owner, 0);
            default:
                return desk.costOf(owner, inForce);
        }
    }

    public int held(int owner, int place) throws NoSuchElementException {
        if (!isOwner(owner) || !isPlace(place)) {
            throw new NoSuchElementException();
        }
        return now.modeAt(owner, place);
    }

    // ---- what is done

    public int begins(int owner) {
        history.mark(now);
        return noted(desk.start(owner));
    }

    public int works(int owner, int n) {
        history.mark(now);
        return noted(desk.labour(owner, n));
    }

    public int locks(int owner, int place, int mode) {
        history.mark(now);
        int how = noted(desk.lock(owner, place, mode));
        if (how < 0) {
            return how;
        }
        told.two(now.at[owner], how == GATHERED ? 1 : 0);
        return how == WAITING ? 0 : 1;
    }

    public int unlocks(int owner, int place) {
        history.mark(now);
        int waited = now.standing(WAITS);
        int answer = noted(desk.unlock(owner, place));
        return answer < 0 ? answer : Integer.bitCount(waited & now.standing(RUNS));
    }

    public int ends(int owner) {
        history.mark(now);
        int waited = now.standing(WAITS);
        int answer = noted(desk.finish(owner));
        if (answer >= 0) {
            told.one(Integer.bitCount(waited & now.standing(RUNS)));
        }
        return answer;
    }

    public int gathers(int owner, int place) {
        history.mark(now);
        int answer = noted(desk.collect(owner, place));
        if (answer >= 0) {
            told.one(now.modeAt(owner, place));
        }
        return answer;
    }

    public int bulk(int v) {
        history.mark(now);
        return noted(desk.setBulk(v));
    }

    public int fells() {
        history.mark(now);
        int n = noted(desk.fellAll(inForce));
        told.list(desk.gone, n);
        return n;
    }

    public int day() {
        int wrong = text.wrongInDay();
        if (wrong != NONE) {
            text.size = 0;
            return -1 - wrong;
        }
        history.mark(now);
        int done = 0;
        int refused = 0;
        for (int p = 0; p < text.size && refused == 0; p += 1 + Math.max(0, Text.digitsOf(text.at(p)))) {
            int sign = text.at(p);
            int two = sign == 'w' ? text.digit(p + 2) : 10 * text.digit(p + 2) + text.digit(p + 3);
            if (desk.act(sign, text.digit(p + 1), two, text.digit(p + 4), inForce) < 0) {
                refused = 1;
            } else {
                done++;
            }
        }
        text.size = 0;
        if (done > 0) {
            history.commit();
        }
        told.two(refused, now.standing(WAITS));
        return done;
    }

    public int undo() {
        if (history.size == 0) {
            return NONE;
        }
        history.back(now);
        return history.size;
    }

    // ---- who holds, who waits

    public int holders(int place) {
        if (!isPlace(place)) {
            return NONE;
        }
        int owners = 0;
        int all = 0;
        for (int owner = 0; owner < OWNERS; owner++) {
            int mode = now.modeAt(owner, place);
            if (mode != 0) {
                owners |= 1 << owner;
                all = BOTH[MODES * all + mode];
            }
        }
        told.one(all);
        return owners;
    }

    public int queue(int place) {
        if (!isPlace(place)) {
            return NONE;
        }
        int n = now.requests(place);
        told.size = 0;
        for (int i = 0; i < n; i++) {
            for (int owner = 0; owner < OWNERS; owner++) {
                if (now.at[owner] == place && now.position(owner) == i) {
                    told.add(owner);
                }
            }
        }
        return n;
    }

    public int waits(int owner) {
        if (!isOwner(owner)) {
            return NONE;
        }
        if (now.stand[owner] != WAITS) {
            return -2;
        }
        told.two(now.want[owner], now.position(owner));
        told.add(now.goal[owner]);
        told.add(now.mode[owner]);
        return now.at[owner];
    }

    public int covers(int owner, int place) {
        if (!isOwner(owner) || !isPlace(place)) {
            return NONE;
        }
        int own = now.modeAt(owner, place);
        int all = now.firstAbove(owner, place, COVERS_ALL);
        if (all != NOWHERE) {
            told.one(all);
            return X;
        }
        int reading = now.firstAbove(owner, place, COVERS_READING);
        told.one(reading);
        return reading == NOWHERE ? own : BOTH[MODES * own + S];
    }

    public int may(int owner, int place, int mode) {
        if (!isOwner(owner) || !isPlace(place) || !isLockMode(mode)) {
            return NONE;
        }
        if (now.stand[owner] != RUNS) {
            return -2;
        }
        if (now.isCovered(owner, place, mode)) {
            told.two(NOWHERE, 0);
            return 1;
        }
        int stop = now.stopLevel(owner, place, mode);
        boolean done = stop > levelOf(place);
        told.two(done ? NOWHERE : onPath(place, stop), now.newSteps(owner, place, mode, stop));
        return done ? 1 : 0;
    }

    public int free(int owner, int table, int mode) {
        if (!isOwner(owner) || table < 1 || table > TABLES || !isLockMode(mode)) {
            return NONE;
        }
        if (now.stand[owner] != RUNS) {
            return -2;
        }
        int rows = 0;
        int first = FIRST_ROW + ROWS_OF_TABLE * (table - 1);
        for (int i = 0; i < ROWS_OF_TABLE; i++) {
            if (now.isCovered(owner, first + i, mode) || now.stopLevel(owner, first + i, mode) > ROW_LEVEL) {
                rows |= 1 << i;
            }
        }
        told.one(Integer.bitCount(rows));
        return rows;
    }

    // ---- who waits for whom

    public int behind(int owner) {
        if (!isOwner(owner)) {
            return NONE;
        }
        int owners = now.forWhom(owner);
        told.one(Integer.bitCount(owners));
        return owners;
    }

    public int stops(int owner) {
        if (!isOwner(owner)) {
            return NONE;
        }
        desk.links.read(now);
        told.one(desk.links.waiters(owner));
        return desk.links.reachers(owner);
    }

    public int rings() {
        desk.links.read(now);
        int owners = desk.links.inRings();
        told.one(Integer.bitCount(owners));
        return owners;
    }

    public int ring(int owner) {
        if (!isOwner(owner)) {
            return NONE;
        }
        desk.links.read(now);
        if ((desk.links.inRings() >>> owner & 1) == 0) {
            return -2;
        }
        int n = desk.links.shortest(owner);
        told.list(desk.links.path, n);
        return n;
    }

    public int victim() {
        int owner = desk.cheapest(inForce);
        if (owner == NONE) {
            return -2;
        }
        told.one(desk.costOf(owner, inForce));
        return owner;
    }

    public int frees(int owner) {
        if (!isOwner(owner)) {
            return NONE;
        }
        if (now.stand[owner] != WAITS) {
            return -2;
        }
        int others = (now.standing(RUNS) | now.standing(WAITS)) & ~(1 << owner);
        for (int n = 1; n < OWNERS; n++) {
            for (int set = 1; set < 1 << OWNERS; set++) {
                if ((set & ~others) == 0 && Integer.bitCount(set) == n && runsWithout(owner, set)) {
                    told.one(set);
                    return n;
                }
            }
        }
        // Not reached: an owner who is alone is granted all that it waits for.
        return NONE;
    }

    public int drains() {
        trial.state.copy(now);
        told.size = 0;
        int n = 0;
        for (int i = 0; i < OWNERS; i++) {
            int owner = trial.state.firstRunning();
            if (owner == NONE) {
                break;
            }
            trial.leave(owner);
            told.add(owner);
            n++;
        }
        told.add(trial.state.standing(WAITS));
        return n;
    }

    // ---- what it would save, whether all is right

    public int saves(int owner, int place) {
        if (!isOwner(owner) || place < 0 || place >= FIRST_ROW) {
            return NONE;
        }
        int n = now.holdingsBelow(owner, place);
        if (now.stand[owner] == AWAY || n == 0) {
            return -2;
        }
        int want = now.gatherMode(owner, place);
        boolean could = now.stand[owner] == RUNS && now.isOpen(owner, place, want);
        told.two(want, could ? 1 : 0);
        return n;
    }

    public int holds(int owner, int from) {
        if (!isOwner(owner) || !isPlace(from)) {
            return NONE;
        }
        int n = 0;
        told.size = 0;
        for (int place = from; place < PLACES; place++) {
            if (now.modeAt(owner, place) != 0) {
                if (n < TOLD_PLACES) {
                    told.add(place);
                }
                n++;
            }
        }
        return n;
    }

    public int common(int one, int other) {
        if (!isOwner(one) || !isOwner(other) || one == other) {
            return NONE;
        }
        int n = 0;
        int first = NOWHERE;
        int waitedAt = 0;
        for (int place = PLACES - 1; place >= 0; place--) {
            if (now.modeAt(one, place) != 0 && now.modeAt(other, place) != 0) {
                n++;
                first = place;
                waitedAt += now.at[one] == place || now.at[other] == place ? 1 : 0;
            }
        }
        told.two(first, waitedAt);
        return n;
    }

    public int queues() {
        int n = 0;
        int longest = NOWHERE;
        int most = 0;
        for (int place = 0; place < PLACES; place++) {
            int requests = now.requests(place);
            if (requests > 0) {
                n++;
            }
            if (requests > most) {
                most = requests;
                longest = place;
            }
        }
        told.size = 0;
        if (n > 0) {
            told.two(longest, now.changes());
        }
        return n;
    }

    public int sum() {
        told.one(now.heldSum());
        return 0;
    }

    // ---- rules, years

    public int law() {
        int wrong = spare.read(text);
        text.size = 0;
        if (wrong != NONE) {
            return -100 - wrong;
        }
        int first = desk.cheapest(spare);
        int cost = first == NONE ? 0 : desk.costOf(first, spare);
        trial.state.copy(now);
        int bySpare = trial.fellAll(spare);
        trial.state.copy(now);
        told.two(cost, bySpare);
        told.add(trial.fellAll(inForce));
        return first == NONE ? OWNERS : first;
    }

    public int years(int seed, int n) {
        if (n < 1 || n > MOST_YEARS) {
            return NONE;
        }
        trial.state.copy(now);
        trial.draws = seed;
        for (int i = 0; i < n; i++) {
            int sign = YEAR_ACTS.charAt(trial.draw(6));
            int owner = trial.draw(OWNERS);
            int two = 0;
            int mode = 0;
            if (sign == 'o') {
                sign = OTHER_YEAR_ACTS.charAt(trial.draw(3));
            }
            if (sign == 'l') {
                two = trial.draw(PLACES);
                mode = trial.draw(6) + 1;
            } else if (sign == 'w') {
                two = trial.draw(9) + 1;
            } else if (sign == 'g') {
                two = trial.draw(FIRST_ROW);
            }
            trial.act(sign, owner, two, mode, inForce);
        }
        State then = trial.state;
        told.two(then.heldSum(), then.standing(RUNS));
        told.add(then.allFalls());
        return Integer.bitCount(then.standing(WAITS));
    }

    // ---- kept

    public boolean keep(int i) {
        if (i < 0 || i >= KEEPS) {
            return false;
        }
        keeps[i].copy(now);
        kept[i] = true;
        return true;
    }

    public boolean again(int i) {
        if (i < 0 || i >= KEEPS || !kept[i]) {
            return false;
        }
        now.copy(keeps[i]);
        history.size = 0;
        return true;
    }

    public int count(int what) {
        switch (what) {
            case 0:
                return now.standing(RUNS);
            case 1:
                return now.standing(WAITS);
            case 2:
                return now.began;
            case 3:
                return now.gatherFrom;
            case 4:
                return Integer.bitCount(now.standing(WAITS));
            case 5:
                return now.allHoldings();
            case 6:
                return now.allFalls();
            case 7:
                return history.size;
            case 8:
                return told.size;
            case 9:
                return text.size;
            default:
                return -100;
        }
    }

    public long row(int i) throws NoSuchElementException {
        if (i < 0 || i >= told.size) {
            throw new NoSuchElementException();
        }
        return told.numbers[i];
    }

    // ---- helpers

    /** What was not refused can be undone. */
    private int noted(int answer) {
        if (answer >= 0) {
            history.commit();
        }
        return answer;
    }

    private boolean runsWithout(int owner, int leaving) {
        trial.state.copy(now);
        for (int o = 0; o < OWNERS; o++) {
            if ((leaving >>> o & 1) != 0) {
                trial.leave(o);
            }
        }
        return trial.state.stand[owner] == RUNS;
    }

    private static boolean isOwner(int owner) {
        return owner >= 0 && owner < OWNERS;
    }

    private static boolean isPlace(int place) {
        return place >= 0 && place < PLACES;
    }

    private static boolean isMode(int mode) {
        return mode >= 0 && mode < MODES;
    }

    private static boolean isLockMode(int mode) {
        return mode >= IS && mode < MODES;
    }

    private static int levelOf(int place) {
        if (place >= FIRST_ROW) {
            return ROW_LEVEL;
        }
        return place >= 5 ? 2 : place >= 1 ? 1 : 0;
    }

    /** The place of this level in which the place lies, or itself: four lie in each, so they are numbered as a heap. */
    private static int onPath(int place, int level) {
        int up = place;
        for (int l = levelOf(place); l > level; l--) {
            up = (up - 1) / 4;
        }
        return up;
    }

    /** The mode of the step at this level of a lock of the place. */
    private static int stepMode(int place, int level, int mode) {
        if (level == levelOf(place)) {
            return mode;
        }
        return mode == IS || mode == S ? IS : IX;
    }

    /** All that can be undone. */
    private static final class State {
        // Of each place the modes that owners 0 .. 7 hold, four bits each: so a copy is short.
        final int[] held = new int[PLACES];
        final int[] stand = new int[OWNERS];
        final int[] age = new int[OWNERS];
        final int[] work = new int[OWNERS];
        final int[] falls = new int[OWNERS];
        // Of an owner who waits: where, for what, since when, and which lock it goes on with.
        final int[] at = new int[OWNERS];
        final int[] want = new int[OWNERS];
        final int[] turn = new int[OWNERS];
        final int[] goal = new int[OWNERS];
        final int[] mode = new int[OWNERS];
        int turns;
        int began;
        int gatherFrom;

        State() {
            for (int owner = 0; owner < OWNERS; owner++) {
                at[owner] = NOWHERE;
            }
            gatherFrom = 5;
        }

        void copy(State from) {
            System.arraycopy(from.held, 0, held, 0, PLACES);
            System.arraycopy(from.stand, 0, stand, 0, OWNERS);
            System.arraycopy(from.age, 0, age, 0, OWNERS);
            System.arraycopy(from.work, 0, work, 0, OWNERS);
            System.arraycopy(from.falls, 0, falls, 0, OWNERS);
            System.arraycopy(from.at, 0, at, 0, OWNERS);
            System.arraycopy(from.want, 0, want, 0, OWNERS);
            System.arraycopy(from.turn, 0, turn, 0, OWNERS);
            System.arraycopy(from.goal, 0, goal, 0, OWNERS);
            System.arraycopy(from.mode, 0, mode, 0, OWNERS);
            turns = from.turns;
            began = from.began;
            gatherFrom = from.gatherFrom;
        }

        int modeAt(int owner, int place) {
            return held[place] >>> 4 * owner & 15;
        }

        void setMode(int owner, int place, int mode) {
            held[place] = held[place] & ~(15 << 4 * owner) | mode << 4 * owner;
        }

        int standing(int how) {
            int owners = 0;
            for (int owner = 0; owner < OWNERS; owner++) {
                if (stand[owner] == how) {
                    owners |= 1 << owner;
                }
            }
            return owners;
        }

        int firstRunning() {
            for (int owner = 0; owner < OWNERS; owner++) {
                if (stand[owner] == RUNS) {
                    return owner;
                }
            }
            return NONE;
        }

        /** At how many places the owner holds this mode; mode 0: holds something. */
        int holdings(int owner, int mode) {
            int n = 0;
            for (int place = 0; place < PLACES; place++) {
                int own = modeAt(owner, place);
                if (own != 0 && (mode == 0 || own == mode)) {
                    n++;
                }
            }
            return n;
        }

        int allHoldings() {
            int n = 0;
            for (int owner = 0; owner < OWNERS; owner++) {
                n += holdings(owner, 0);
            }
            return n;
        }

        int allFalls() {
            int n = 0;
            for (int owner = 0; owner < OWNERS; owner++) {
                n += falls[owner];
            }
            return n;
        }

        int heldSum() {
            int sum = 7;
            for (int place = 0; place < PLACES; place++) {
                for (int owner = 0; owner < OWNERS; owner++) {
                    sum = 31 * sum + modeAt(owner, place);
                }
            }
            return sum;
        }

        /** At how many places below the place the owner holds something; those of one level have numbers in a row. */
        int holdingsBelow(int owner, int place) {
            int n = 0;
            int last = 4 * place + 4;
            for (int first = 4 * place + 1; first < PLACES; first = 4 * first + 1) {
                for (int p = first; p <= last && p < PLACES; p++) {
                    n += (held[p] >>> 4 * owner & 15) != 0 ? 1 : 0;
                }
                last = 4 * last + 4;
            }
            return n;
        }

        /** What the owner wants at the place if it gathers there. */
        int gatherMode(int owner, int place) {
            int last = 4 * place + 4;
            for (int first = 4 * place + 1; first < PLACES; first = 4 * first + 1) {
                for (int p = first; p <= last && p < PLACES; p++) {
                    int own = held[p] >>> 4 * owner & 15;
                    if (own != 0 && own != IS && own != S) {
                        return X;
                    }
                }
                last = 4 * last + 4;
            }
            return BOTH[MODES * (held[place] >>> 4 * owner & 15) + S];
        }

        /** The first place above, from the base on, where the owner holds one of these modes (bits). */
        int firstAbove(int owner, int place, int modes) {
            for (int level = 0; level < levelOf(place); level++) {
                int up = onPath(place, level);
                if ((modes >>> modeAt(owner, up) & 1) != 0) {
                    return up;
                }
            }
            return NOWHERE;
        }

        boolean isCovered(int owner, int place, int mode) {
            int by = mode == IS || mode == S ? COVERS_ALL | COVERS_READING : COVERS_ALL;
            return firstAbove(owner, place, by) != NOWHERE;
        }

        /** Whether the mode goes together with all that others hold there. */
        boolean fits(int owner, int place, int mode) {
            for (int o = 0; o < OWNERS; o++) {
                if (o != owner && (TOGETHER[mode] >>> modeAt(o, place) & 1) == 0) {
                    return false;
                }
            }
            return true;
        }

        /** Whether the owner would be granted the mode at once: who holds something there goes ahead of comers. */
        boolean isOpen(int owner, int place, int mode) {
            boolean comes = (held[place] >>> 4 * owner & 15) == 0;
            for (int o = 0; o < OWNERS; o++) {
                int theirs = held[place] >>> 4 * o & 15;
                if (at[o] == place && (comes || theirs != 0)) {
                    return false;
                }
                if (o != owner && (TOGETHER[mode] >>> theirs & 1) == 0) {
                    return false;
                }
            }
            return true;
        }

        /** The first level whose step would not be done, if the owner locked the place: behind the place's own, if all would. */
        int stopLevel(int owner, int place, int mode) {
            int last = levelOf(place);
            for (int level = 0; level <= last; level++) {
                int p = onPath(place, level);
                int own = modeAt(owner, p);
                int want = BOTH[MODES * own + stepMode(place, level, mode)];
                if (want != own && !isOpen(owner, p, want)) {
                    return level;
                }
            }
            return last + 1;
        }

        /** How many of the steps ahead of a level want more than is held. */
        int newSteps(int owner, int place, int mode, int levels) {
            int n = 0;
            for (int level = 0; level < levels; level++) {
                int own = modeAt(owner, onPath(place, level));
                if (BOTH[MODES * own + stepMode(place, level, mode)] != own) {
                    n++;
                }
            }
            return n;
        }

        int requests(int place) {
            int n = 0;
            for (int owner = 0; owner < OWNERS; owner++) {
                n += at[owner] == place ? 1 : 0;
            }
            return n;
        }

        int changes() {
            int n = 0;
            for (int owner = 0; owner < OWNERS; owner++) {
                n += isChange(owner) ? 1 : 0;
            }
            return n;
        }

        /** What an owner who waits holds at the place where it waits stays as it is till it runs. */
        boolean isChange(int owner) {
            return at[owner] != NOWHERE && (held[at[owner]] >>> 4 * owner & 15) != 0;
        }

        /** Whether one's request stands ahead of the other's; both wait at the same place. */
        boolean isAhead(int one, int other) {
            boolean changes = isChange(one);
            if (changes != isChange(other)) {
                return changes;
            }
            return turn[one] < turn[other];
        }

        int position(int owner) {
            int n = 0;
            for (int o = 0; o < OWNERS; o++) {
                n += o != owner && at[o] == at[owner] && isAhead(o, owner) ? 1 : 0;
            }
            return n;
        }

        int firstInQueue(int place) {
            int first = NONE;
            for (int o = 0; o < OWNERS; o++) {
                if (at[o] == place && (first == NONE || isAhead(o, first))) {
                    first = o;
                }
            }
            return first;
        }

        /** Those for whom the owner waits (bits). */
        int forWhom(int owner) {
            if (stand[owner] != WAITS) {
                return 0;
            }
            int place = at[owner];
            int owners = 0;
            for (int o = 0; o < OWNERS; o++) {
                boolean stops = (TOGETHER[want[owner]] >>> modeAt(o, place) & 1) == 0;
                if (o != owner && (stops || at[o] == place && isAhead(o, owner))) {
                    owners |= 1 << o;
                }
            }
            return owners;
        }

        /** The owner comes behind all of its kind at the place. */
        void enqueue(int owner, int place, int mode) {
            stand[owner] = WAITS;
            at[owner] = place;
            want[owner] = mode;
            turn[owner] = turns;
            turns++;
        }

        void grant(int owner) {
            setMode(owner, at[owner], want[owner]);
            stand[owner] = RUNS;
            at[owner] = NOWHERE;
        }
    }

    /** What can be done with a state. */
    private static final class Desk {
        final State state = new State();
        final Links links = new Links();
        // Those who were felled last, in turn.
        final int[] gone = new int[OWNERS];
        // Of each place, as bits: owners who have left it, so that it has to be served.
        private final int[] due = new int[PLACES];
        int draws;

        int draw(int n) {
            draws = draws * 1103515245 + 12345;
            return n < 1 ? 0 : (draws >>> 16) % n;
        }

        /** One act, by its sign in the text of a day. */
        int act(int sign, int one, int two, int three, Rule rule) {
            switch (sign) {
                case 'b':
                    return start(one);
                case 'w':
                    return labour(one, two);
                case 'l':
                    return lock(one, two, three);
                case 'u':
                    return unlock(one, two);
                case 'e':
                    return finish(one);
                case 'g':
                    return collect(one, two);
                case 'f':
                    return fellAll(rule);
                case 'v':
                    return setBulk(one);
                default:
                    return NONE;
            }
        }

        int start(int owner) {
            if (!isOwner(owner)) {
                return NONE;
            }
            if (state.stand[owner] != AWAY) {
                return -2;
            }
            state.began++;
            state.stand[owner] = RUNS;
            state.age[owner] = state.began;
            return state.began;
        }

        int labour(int owner, int n) {
            if (!isOwner(owner) || n < 1 || n > 9) {
                return NONE;
            }
            if (state.stand[owner] != RUNS) {
                return idle(owner);
            }
            state.work[owner] = Math.min(MOST, state.work[owner] + n);
            return state.work[owner];
        }

        int lock(int owner, int place, int mode) {
            if (!isOwner(owner) || !isPlace(place) || !isLockMode(mode)) {
                return NONE;
            }
            if (state.stand[owner] != RUNS) {
                return idle(owner);
            }
            if (state.isCovered(owner, place, mode)) {
                return DONE;
            }
            state.goal[owner] = place;
            state.mode[owner] = mode;
            return goOn(owner, 0, 0);
        }

        int unlock(int owner, int place) {
            if (!isOwner(owner) || !isPlace(place)) {
                return NONE;
            }
            if (state.stand[owner] != RUNS) {
                return idle(owner);
            }
            if (state.modeAt(owner, place) == 0) {
                return -4;
            }
            if (state.holdingsBelow(owner, place) > 0) {
                return -5;
            }
            state.setMode(owner, place, 0);
            serve(place, 0);
            return 0;
        }

        int finish(int owner) {
            if (!isOwner(owner)) {
                return NONE;
            }
            if (state.stand[owner] == AWAY) {
                return -2;
            }
            int n = state.holdings(owner, 0);
            leave(owner);
            return n;
        }

        int collect(int owner, int place) {
            if (!isOwner(owner) || place < 0 || place >= FIRST_ROW) {
                return NONE;
            }
            if (state.stand[owner] != RUNS) {
                return idle(owner);
            }
            int n = state.holdingsBelow(owner, place);
            return gatherAt(owner, place, 0) ? n : -4;
        }

        int setBulk(int v) {
            if (v < 2 || v > 5) {
                return NONE;
            }
            int was = state.gatherFrom;
            if (v == was) {
                return -2;
            }
            state.gatherFrom = v;
            return 10 + was;
        }

        /** Each felling sends one away, and none begins: so eight are the most. */
        int fellAll(Rule rule) {
            int n = 0;
            for (int i = 0; i < OWNERS; i++) {
                int owner = cheapest(rule);
                if (owner == NONE) {
                    break;
                }
                state.falls[owner] = Math.min(MOST, state.falls[owner] + 1);
                gone[i] = owner;
                n++;
                leave(owner);
            }
            return n;
        }

        /** The owner in a ring that costs least, of equal ones the greatest age; NONE without a ring. */
        int cheapest(Rule rule) {
            links.read(state);
            int owners = links.inRings();
            int best = NONE;
            int least = 0;
            for (int owner = 0; owner < OWNERS; owner++) {
                if ((owners >>> owner & 1) == 0) {
                    continue;
                }
                int cost = rule.cost(state, owner, links.waiters(owner));
                if (best == NONE || cost < least || cost == least && state.age[owner] > state.age[best]) {
                    best = owner;
                    least = cost;
                }
            }
            return best;
        }

        int costOf(int owner, Rule rule) {
            links.read(state);
            return rule.cost(state, owner, links.waiters(owner));
        }

        void leave(int owner) {
            int own = 15 << 4 * owner;
            int at = state.at[owner];
            for (int place = 0; place < PLACES; place++) {
                if ((state.held[place] & own) != 0 || place == at) {
                    release(owner, place);
                }
            }
            state.stand[owner] = AWAY;
            state.at[owner] = NOWHERE;
            state.age[owner] = 0;
            state.work[owner] = 0;
            for (int place = 0; place < PLACES; place++) {
                if (due[place] != 0 && takeDue(owner, place)) {
                    serve(place, 0);
                }
            }
        }

        private int idle(int owner) {
            return state.stand[owner] == AWAY ? -2 : -3;
        }

        private void release(int owner, int place) {
            state.held[place] &= ~(15 << 4 * owner);
            due[place] |= 1 << owner;
        }

        private boolean takeDue(int owner, int place) {
            boolean was = (due[place] >>> owner & 1) != 0;
            due[place] &= ~(1 << owner);
            return was;
        }

        private void serve(int place, int depth) {
            if (depth > DEEPEST) {
                return;
            }
            // All are granted ahead of the first one's going on; owners in turn, four bits each.
            int granted = 0;
            int n = 0;
            for (int i = 0; i < OWNERS; i++) {
                int owner = state.firstInQueue(place);
                if (owner == NONE || !state.fits(owner, place, state.want[owner])) {
                    break;
                }
                state.grant(owner);
                granted |= owner << 4 * n;
                n++;
            }
            int level = levelOf(place);
            for (int i = 0; i < n; i++) {
                goOn(granted >>> 4 * i & 7, level + 1, depth);
            }
        }

        /** The steps of the owner's lock from a level on: WAITING, DONE or GATHERED. */
        private int goOn(int owner, int level, int depth) {
            int goal = state.goal[owner];
            int last = levelOf(goal);
            for (int l = level; l <= last; l++) {
                int place = onPath(goal, l);
                int own = state.modeAt(owner, place);
                int want = BOTH[MODES * own + stepMode(goal, l, state.mode[owner])];
                if (want == own) {
                    continue;
                }
                if (!state.isOpen(owner, place, want)) {
                    state.enqueue(owner, place, want);
                    return WAITING;
                }
                state.setMode(owner, place, want);
            }
            if (last != ROW_LEVEL) {
                return DONE;
            }
            int page = onPath(goal, last - 1);
            boolean many = state.holdingsBelow(owner, page) >= state.gatherFrom;
            return many && gatherAt(owner, page, depth) ? GATHERED : DONE;
        }

        /** Whether the owner gathered: who holds something below holds something there too. */
        private boolean gatherAt(int owner, int place, int depth) {
            int want = state.gatherMode(owner, place);
            if (state.holdingsBelow(owner, place) == 0 || !state.isOpen(owner, place, want)) {
                return false;
            }
            state.setMode(owner, place, want);
            int last = 4 * place + 4;
            for (int first = 4 * place + 1; first < PLACES; first = 4 * first + 1) {
                for (int p = first; p <= last && p < PLACES; p++) {
                    if (state.modeAt(owner, p) != 0) {
                        release(owner, p);
                    }
                }
                last = 4 * last + 4;
            }
            for (int p = place + 1; p < PLACES; p++) {
                if (due[p] != 0 && takeDue(owner, p)) {
                    serve(p, depth + 1);
                }
            }
            return true;
        }
    }

    /** Who waits for whom. */
    private static final class Links {
        private final int[] next = new int[OWNERS];
        private final int[] reach = new int[OWNERS];
        private final int[] away = new int[OWNERS];
        final int[] path = new int[OWNERS];

        void read(State state) {
            for (int owner = 0; owner < OWNERS; owner++) {
                next[owner] = state.forWhom(owner);
                reach[owner] = next[owner];
            }
            for (int by = 0; by < OWNERS; by++) {
                for (int owner = 0; owner < OWNERS; owner++) {
                    if ((reach[owner] >>> by & 1) != 0) {
                        reach[owner] |= reach[by];
                    }
                }
            }
        }

        /** How many wait for the owner themselves. */
        int waiters(int owner) {
            int n = 0;
            for (int o = 0; o < OWNERS; o++) {
                n += next[o] >>> owner & 1;
            }
            return n;
        }

        /** Those who wait for the owner, or for one who does, and so on (bits). */
        int reachers(int owner) {
            int owners = 0;
            for (int o = 0; o < OWNERS; o++) {
                owners |= (reach[o] >>> owner & 1) << o;
            }
            return owners;
        }

        int inRings() {
            int owners = 0;
            for (int o = 0; o < OWNERS; o++) {
                owners |= reach[o] & 1 << o;
            }
            return owners;
        }

        /** The shortest ring of an owner who is in one: how many; they stand in path. */
        int shortest(int owner) {
            measure(owner);
            int length = OWNERS;
            for (int o = 0; o < OWNERS; o++) {
                if ((next[owner] >>> o & 1) != 0 && away[o] < length) {
                    length = away[o] + 1;
                }
            }
            path[0] = owner;
            for (int i = 1; i < length; i++) {
                path[i] = nearer(path[i - 1], length - i);
            }
            return length;
        }

        /** How many steps each one is away from the owner; OWNERS: it can't come there. */
        private void measure(int owner) {
            for (int o = 0; o < OWNERS; o++) {
                away[o] = o == owner ? 0 : OWNERS;
            }
            for (int round = 1; round < OWNERS; round++) {
                for (int o = 0; o < OWNERS; o++) {
                    if (away[o] == OWNERS && nearer(o, round - 1) != NONE) {
                        away[o] = round;
                    }
                }
            }
        }

        /** The first one for whom this one waits that is so far away; NONE without. */
        private int nearer(int one, int far) {
            for (int o = 0; o < OWNERS && one != NONE; o++) {
                if ((next[one] >>> o & 1) != 0 && away[o] == far) {
                    return o;
                }
            }
            return NONE;
        }
    }

    /** What a victim costs, as a text tells it: kept with each operator behind its things, so that no one is read twice. */
    private static final class Rule {
        // Greater than any sign of a text (0 .. 255), so that no sign is taken for it.
        private static final int NEGATE = 256;

        // Numbers as they are, letters and operators as 0 minus their sign.
        private final int[] code = new int[RULE_SIGNS];
        private final int[] pending = new int[RULE_SIGNS];
        private final int[] values = new int[RULE_SIGNS];
        private int size;
        private int pendings;
        private int depth;
        private int digits;
        private int compared;
        private boolean behindThing;

        void copy(Rule from) {
            System.arraycopy(from.code, 0, code, 0, RULE_SIGNS);
            size = from.size;
        }

        /** NONE, or where the first sign stands that can't stand there. */
        int read(Text text) {
            size = 0;
            pendings = 0;
            depth = 0;
            digits = 0;
            compared = 0;
            behindThing = false;
            int end = Math.min(text.size, RULE_SIGNS);
            for (int p = 0; p < end; p++) {
                int sign = text.at(p);
                boolean taken = behindThing ? takeBehind(sign) : takeThing(sign);
                if (!taken) {
                    return p;
                }
            }
            if (text.size > RULE_SIGNS) {
                return RULE_SIGNS;
            }
            if (end > 0 && (!behindThing || depth > 0)) {
                return end;
            }
            settle(1);
            return NONE;
        }

        private boolean takeThing(int sign) {
            if (sign == '-') {
                postpone(NEGATE);
                return true;
            }
            if (sign == '(') {
                if (depth >= RULE_DEPTH) {
                    return false;
                }
                postpone(sign);
                depth++;
                compared &= ~(1 << depth);
                return true;
            }
            boolean digit = isDigit(sign);
            if (!digit && !isLetter(sign)) {
                return false;
            }
            digits = digit ? 1 : 0;
            put(digit ? sign - '0' : -sign);
            behindThing = true;
            return true;
        }

        private boolean takeBehind(int sign) {
            if (isDigit(sign)) {
                return takeDigit(sign);
            }
            if (sign == ')') {
                return close();
            }
            int rank = rankOf(sign);
            if (rank == 0 || rank == 1 && (compared >>> depth & 1) != 0) {
                return false;
            }
            if (rank == 1) {
                compared |= 1 << depth;
            }
            settle(rank);
            postpone(sign);
            behindThing = false;
            return true;
        }

        private boolean takeDigit(int sign) {
            if (digits < 1 || digits > 2 || size < 1) {
                return false;
            }
            code[size - 1] = 10 * code[size - 1] + sign - '0';
            digits++;
            return true;
        }

        private boolean close() {
            if (depth == 0) {
                return false;
            }
            settle(1);
            if (pendings > 0) {
                pendings--;
            }
            depth--;
            digits = 0;
            return true;
        }

        /** What binds as much or more stands ahead of what comes. */
        private void settle(int rank) {
            for (int i = pendings; i > 0; i--) {
                int sign = pending[i - 1];
                if (rankOf(sign) < rank) {
                    break;
                }
                put(-sign);
                pendings--;
            }
        }

        private void postpone(int sign) {
            if (pendings < RULE_SIGNS) {
                pending[pendings] = sign;
                pendings++;
            }
        }

        private void put(int c) {
            if (size < RULE_SIGNS) {
                code[size] = c;
                size++;
            }
        }

        /** As an int: an empty rule is w+h. */
        int cost(State state, int owner, int waiters) {
            if (size == 0) {
                return state.work[owner] + state.holdings(owner, 0);
            }
            int top = 0;
            for (int i = 0; i < size; i++) {
                int c = code[i];
                if (c == -NEGATE) {
                    if (top > 0) {
                        values[top - 1] = -values[top - 1];
                    }
                } else if (c < 0 && rankOf(-c) > 0) {
                    if (top > 1) {
                        top--;
                        values[top - 1] = reckon(-c, values[top - 1], values[top]);
                    }
                } else if (top < RULE_SIGNS) {
                    values[top] = c >= 0 ? c : valueOf(-c, state, owner, waiters);
                    top++;
                }
            }
            return values[0];
        }

        private static int valueOf(int letter, State state, int owner, int waiters) {
            switch (letter) {
                case 'w':
                    return state.work[owner];
                case 'h':
                    return state.holdings(owner, 0);
                case 'a':
                    return state.age[owner];
                case 'f':
                    return state.falls[owner];
                case 'i':
                    return owner;
                case 'q':
                    return waiters;
                case 'x':
                    return state.holdings(owner, X);
                default:
                    return 0;
            }
        }

        private static int reckon(int sign, int a, int b) {
            switch (sign) {
                case '<':
                    return a < b ? 1 : 0;
                case '>':
                    return a > b ? 1 : 0;
                case '=':
                    return a == b ? 1 : 0;
                case '+':
                    return a + b;
                case '-':
                    return a - b;
                case '*':
                    return a * b;
                default:
                    return b == 0 ? 0 : a / b;
            }
        }

        private static int rankOf(int sign) {
            switch (sign) {
                case '<':
                case '>':
                case '=':
                    return 1;
                case '+':
                case '-':
                    return 2;
                case '*':
                case '/':
                    return 3;
                case NEGATE:
                    return 4;
                default:
                    return 0;
            }
        }

        private static boolean isLetter(int sign) {
            return sign == 'w' || sign == 'h' || sign == 'a' || sign == 'f' || sign == 'i' || sign == 'q' || sign == 'x';
        }
    }

    private static boolean isDigit(int sign) {
        return sign >= '0' && sign <= '9';
    }

    /** The text that sign() and end() make. */
    private static final class Text {
        private final char[] signs = new char[TEXT_SIGNS];
        int size;

        int addFour(int v) {
            if (size > TEXT_SIGNS - 4) {
                return NONE;
            }
            for (int shift = 24; shift >= 0; shift -= 8) {
                signs[size] = (char) (v >>> shift & 255);
                size++;
            }
            return size;
        }

        /** The sign at p; 0 behind the text's end. */
        int at(int p) {
            return p >= 0 && p < size ? signs[p] : 0;
        }

        /** The digit at p as a number; 0 if there is none. */
        int digit(int p) {
            int sign = at(p);
            return isDigit(sign) ? sign - '0' : 0;
        }

        boolean says(String name) {
            if (name.length() != size) {
                return false;
            }
            for (int p = 0; p < size; p++) {
                if (signs[p] != name.charAt(p)) {
                    return false;
                }
            }
            return true;
        }

        int modeName() {
            return size == 0 ? 0
                : says("IS") ? IS
                : says("IX") ? IX
                : says("S") ? S
                : says("SIX") ? 4
                : says("U") ? 5
                : says("X") ? X
                : NONE;
        }

        /** NONE, or where the first sign stands that can't stand there in a day. */
        int wrongInDay() {
            int digits = 0;
            for (int p = 0; p < size; p++) {
                int sign = signs[p];
                if (digits > 0) {
                    if (!isDigit(sign)) {
                        return p;
                    }
                    digits--;
                } else {
                    digits = digitsOf(sign);
                    if (digits == NONE) {
                        return p;
                    }
                }
            }
            return digits > 0 ? size : NONE;
        }

        /** How many digits an act of this sign has; NONE: there is no such act. */
        static int digitsOf(int sign) {
            switch (sign) {
                case 'f':
                    return 0;
                case 'b':
                case 'e':
                case 'v':
                    return 1;
                case 'w':
                    return 2;
                case 'u':
                case 'g':
                    return 3;
                case 'l':
                    return 4;
                default:
                    return NONE;
            }
        }
    }

    /** The numbers that were told last. */
    private static final class Row {
        final long[] numbers = new long[TOLD_PLACES + 1];
        int size;

        void add(long number) {
            if (size < numbers.length) {
                numbers[size] = number;
                size++;
            }
        }

        void one(long number) {
            size = 0;
            add(number);
        }

        void two(long number, long next) {
            size = 0;
            add(number);
            add(next);
        }

        void list(int[] from, int n) {
            size = 0;
            for (int i = 0; i < n && i < from.length; i++) {
                add(from[i]);
            }
        }
    }

    /** States ahead of what was done: one slot more than can be undone, so that one can be marked and not committed. */
    private static final class History {
        private static final int SLOTS = UNDOABLE + 1;

        private final State[] slots = new State[SLOTS];
        private int first;
        int size;

        History() {
            for (int i = 0; i < SLOTS; i++) {
                slots[i] = new State();
            }
        }

        void mark(State state) {
            slots[(first + size) % SLOTS].copy(state);
        }

        /** What was marked last can be undone. */
        void commit() {
            if (size < UNDOABLE) {
                size++;
            } else {
                first = (first + 1) % SLOTS;
            }
        }

        void back(State state) {
            if (size > 0) {
                size--;
                state.copy(slots[(first + size) % SLOTS]);
            }
        }
    }
}
