import java.util.ArrayDeque;
import java.util.ArrayList;
import java.util.List;
import java.util.NoSuchElementException;
import java.util.TreeMap;
import java.util.TreeSet;

/**
 * The document told once more, in its plainest form, with the Java library: lists as queues, maps of what is held,
 * copies of all for each question. ModelTest compares the class with it.
 */
final class Model {
    static final String[] NAMES = {"", "IS", "IX", "S", "SIX", "U", "X"};
    static final String[] TOGETHER = {"IS IS", "IS IX", "IS S", "IS SIX", "IS U", "IX IX", "S S", "S U"};
    static final String[] STRONGER = {"IX IS", "S IS", "SIX IX", "SIX S", "SIX IS", "U S", "U IS"};

    static boolean together(int a, int b) {
        if (a == 0 || b == 0) {
            return true;
        }
        for (String pair : TOGETHER) {
            if (pair.equals(NAMES[a] + " " + NAMES[b]) || pair.equals(NAMES[b] + " " + NAMES[a])) {
                return true;
            }
        }
        return false;
    }

    static boolean strong(int a, int b) {
        if (a == b || b == 0 || a == 6) {
            return true;
        }
        for (String pair : STRONGER) {
            if (pair.equals(NAMES[a] + " " + NAMES[b])) {
                return true;
            }
        }
        return false;
    }

    static int both(int a, int b) {
        for (int m = 0; m < 7; m++) {
            boolean least = strong(m, a) && strong(m, b);
            for (int k = 0; k < 7 && least; k++) {
                if (strong(k, a) && strong(k, b) && !strong(k, m)) {
                    least = false;
                }
            }
            if (least) {
                return m;
            }
        }
        throw new AssertionError();
    }

    static int parent(int place) {
        if (place == 0) {
            return -1;
        }
        if (place <= 4) {
            return 0;
        }
        if (place <= 20) {
            for (int t = 1; t <= 4; t++) {
                int g = 5 + 4 * (t - 1);
                if (place >= g && place <= g + 3) {
                    return t;
                }
            }
        }
        for (int g = 5; g <= 20; g++) {
            int r = 21 + 4 * (g - 5);
            if (place >= r && place <= r + 3) {
                return g;
            }
        }
        throw new AssertionError();
    }

    /** From the base on, without the place itself. */
    static List<Integer> above(int place) {
        List<Integer> up = new ArrayList<>();
        for (int p = parent(place); p >= 0; p = parent(p)) {
            up.add(0, p);
        }
        return up;
    }

    static List<Integer> below(int place) {
        List<Integer> all = new ArrayList<>();
        for (int p = 0; p < 85; p++) {
            if (above(p).contains(place)) {
                all.add(p);
            }
        }
        return all;
    }

    static final class Request {
        int owner;
        int want;
        int goal;
        int mode;
    }

    static final class Owner {
        int stand;
        int age;
        int work;
        int falls;
        TreeMap<Integer, Integer> held = new TreeMap<>();

        int mode(int place) {
            return held.getOrDefault(place, 0);
        }
    }

    static final class World {
        Owner[] owners = new Owner[8];
        List<List<Request>> changes = new ArrayList<>();
        List<List<Request>> comers = new ArrayList<>();
        int began;
        int bulk = 5;

        World() {
            for (int i = 0; i < 8; i++) {
                owners[i] = new Owner();
            }
            for (int p = 0; p < 85; p++) {
                changes.add(new ArrayList<>());
                comers.add(new ArrayList<>());
            }
        }

        World copy() {
            World w = new World();
            for (int i = 0; i < 8; i++) {
                w.owners[i].stand = owners[i].stand;
                w.owners[i].age = owners[i].age;
                w.owners[i].work = owners[i].work;
                w.owners[i].falls = owners[i].falls;
                w.owners[i].held.putAll(owners[i].held);
            }
            for (int p = 0; p < 85; p++) {
                w.changes.get(p).addAll(changes.get(p));
                w.comers.get(p).addAll(comers.get(p));
            }
            w.began = began;
            w.bulk = bulk;
            return w;
        }

        List<Request> queue(int place) {
            List<Request> all = new ArrayList<>(changes.get(place));
            all.addAll(comers.get(place));
            return all;
        }

        int waitsAt(int owner) {
            for (int p = 0; p < 85; p++) {
                for (Request r : queue(p)) {
                    if (r.owner == owner) {
                        return p;
                    }
                }
            }
            return 85;
        }

        boolean goesWithOthers(int owner, int place, int mode) {
            for (int o = 0; o < 8; o++) {
                if (o != owner && !together(mode, owners[o].mode(place))) {
                    return false;
                }
            }
            return true;
        }

        int bits(int stand) {
            int b = 0;
            for (int o = 0; o < 8; o++) {
                if (owners[o].stand == stand) {
                    b |= 1 << o;
                }
            }
            return b;
        }

        boolean granted(int owner, int place, int want) {
            boolean free = owners[owner].mode(place) != 0 ? changes.get(place).isEmpty() : queue(place).isEmpty();
            return free && goesWithOthers(owner, place, want);
        }

        boolean covered(int owner, int place, int mode) {
            for (int up : above(place)) {
                int m = owners[owner].mode(up);
                if (m == 6 || (m == 3 || m == 4 || m == 5) && (mode == 1 || mode == 3)) {
                    return true;
                }
            }
            return false;
        }

        /** Steps from the one at a place on: 0 waits, 1 done, 2 gathered. */
        int goOn(int owner, int goal, int mode, int from) {
            List<Integer> steps = above(goal);
            steps.add(goal);
            for (int i = from; i < steps.size(); i++) {
                int place = steps.get(i);
                int m = place == goal ? mode : mode == 1 || mode == 3 ? 1 : 2;
                int have = owners[owner].mode(place);
                int want = both(m, have);
                if (want == have) {
                    continue;
                }
                if (granted(owner, place, want)) {
                    owners[owner].held.put(place, want);
                    continue;
                }
                Request r = new Request();
                r.owner = owner;
                r.want = want;
                r.goal = goal;
                r.mode = mode;
                (have != 0 ? changes : comers).get(place).add(r);
                owners[owner].stand = 2;
                return 0;
            }
            if (goal >= 21) {
                int page = parent(goal);
                int rows = 0;
                for (int row : below(page)) {
                    rows += owners[owner].mode(row) != 0 ? 1 : 0;
                }
                if (rows >= bulk && gather(owner, page)) {
                    return 2;
                }
            }
            return 1;
        }

        void serve(int place) {
            List<Request> done = new ArrayList<>();
            while (!queue(place).isEmpty()) {
                Request r = queue(place).get(0);
                if (!goesWithOthers(r.owner, place, r.want)) {
                    break;
                }
                changes.get(place).remove(r);
                comers.get(place).remove(r);
                owners[r.owner].held.put(place, r.want);
                owners[r.owner].stand = 1;
                done.add(r);
            }
            for (Request r : done) {
                goOn(r.owner, r.goal, r.mode, above(place).size() + 1);
            }
        }

        int gatherWant(int owner, int place) {
            for (int b : below(place)) {
                int m = owners[owner].mode(b);
                if (m != 0 && m != 1 && m != 3) {
                    return 6;
                }
            }
            return both(owners[owner].mode(place), 3);
        }

        List<Integer> heldBelow(int owner, int place) {
            List<Integer> list = new ArrayList<>();
            for (int b : below(place)) {
                if (owners[owner].mode(b) != 0) {
                    list.add(b);
                }
            }
            return list;
        }

        boolean canGather(int owner, int place) {
            return !heldBelow(owner, place).isEmpty() && changes.get(place).isEmpty()
                && goesWithOthers(owner, place, gatherWant(owner, place));
        }

        boolean gather(int owner, int place) {
            if (!canGather(owner, place)) {
                return false;
            }
            List<Integer> gone = heldBelow(owner, place);
            owners[owner].held.put(place, gatherWant(owner, place));
            for (int b : gone) {
                owners[owner].held.remove(b);
            }
            for (int b : gone) {
                serve(b);
            }
            return true;
        }

        void goes(int owner) {
            TreeSet<Integer> places = new TreeSet<>(owners[owner].held.keySet());
            int at = waitsAt(owner);
            if (at < 85) {
                places.add(at);
                changes.get(at).removeIf(r -> r.owner == owner);
                comers.get(at).removeIf(r -> r.owner == owner);
            }
            owners[owner].held.clear();
            owners[owner].stand = 0;
            owners[owner].age = 0;
            owners[owner].work = 0;
            for (int p : places) {
                serve(p);
            }
        }

        boolean waitsFor(int one, int other) {
            int at = waitsAt(one);
            if (at == 85 || one == other) {
                return false;
            }
            boolean ahead = false;
            for (Request r : queue(at)) {
                if (r.owner == other) {
                    ahead = true;
                }
                if (r.owner == one) {
                    return ahead || !together(r.want, owners[other].mode(at));
                }
            }
            throw new AssertionError();
        }

        int waiters(int owner) {
            int n = 0;
            for (int o = 0; o < 8; o++) {
                n += waitsFor(o, owner) ? 1 : 0;
            }
            return n;
        }

        /** Those from whom one comes to the owner by one wait or more. */
        int reaching(int owner) {
            int seen = 0;
            ArrayDeque<Integer> todo = new ArrayDeque<>();
            todo.add(owner);
            while (!todo.isEmpty()) {
                int to = todo.poll();
                for (int o = 0; o < 8; o++) {
                    if (waitsFor(o, to) && (seen & 1 << o) == 0) {
                        seen |= 1 << o;
                        todo.add(o);
                    }
                }
            }
            return seen;
        }

        int inRings() {
            int b = 0;
            for (int o = 0; o < 8; o++) {
                b |= reaching(o) & 1 << o;
            }
            return b;
        }

        int cost(int owner, String rule) {
            return new Reader(rule.isEmpty() ? "w+h" : rule, this, owner).value();
        }

        int victim(String rule) {
            int rings = inRings();
            int best = -1;
            for (int o = 0; o < 8; o++) {
                if ((rings & 1 << o) == 0) {
                    continue;
                }
                if (best < 0 || cost(o, rule) < cost(best, rule)
                    || cost(o, rule) == cost(best, rule) && owners[o].age > owners[best].age) {
                    best = o;
                }
            }
            return best;
        }

        List<Long> fell(String rule) {
            List<Long> list = new ArrayList<>();
            for (int v = victim(rule); v >= 0; v = victim(rule)) {
                owners[v].falls = Math.min(99, owners[v].falls + 1);
                list.add((long) v);
                goes(v);
            }
            return list;
        }

        int sum() {
            int s = 7;
            for (int p = 0; p < 85; p++) {
                for (int o = 0; o < 8; o++) {
                    s = 31 * s + owners[o].mode(p);
                }
            }
            return s;
        }

        int falls() {
            int n = 0;
            for (Owner o : owners) {
                n += o.falls;
            }
            return n;
        }
    }

    /** Reads and reckons a rule by descent; wrong() tells where it can't go on. */
    static final class Reader {
        final String text;
        final World world;
        final int owner;
        int p;

        static final class Wrong extends RuntimeException {
            final int at;

            Wrong(int at) {
                this.at = at;
            }
        }

        Reader(String text, World world, int owner) {
            this.text = text;
            this.world = world;
            this.owner = owner;
        }

        static int wrong(String text) {
            if (text.isEmpty()) {
                return -1;
            }
            boolean longer = text.length() > 40;
            String first = longer ? text.substring(0, 40) : text;
            try {
                new Reader(first, null, 0).value();
            } catch (Wrong w) {
                return w.at;
            }
            return longer ? 40 : -1;
        }

        int value() {
            int v = expression(0);
            if (p < text.length()) {
                throw new Wrong(p);
            }
            return v;
        }

        char peek() {
            return p < text.length() ? text.charAt(p) : (char) 0xFFFF;
        }

        int expression(int depth) {
            int v = plus(depth);
            char c = peek();
            if (c == '<' || c == '>' || c == '=') {
                p++;
                int w = plus(depth);
                boolean is = c == '<' ? v < w : c == '>' ? v > w : v == w;
                v = is ? 1 : 0;
            }
            return v;
        }

        int plus(int depth) {
            int v = times(depth);
            while (peek() == '+' || peek() == '-') {
                char c = peek();
                p++;
                int w = times(depth);
                v = c == '+' ? v + w : v - w;
            }
            return v;
        }

        int times(int depth) {
            int v = unary(depth);
            while (peek() == '*' || peek() == '/') {
                char c = peek();
                p++;
                int w = unary(depth);
                v = c == '*' ? v * w : w == 0 ? 0 : v / w;
            }
            return v;
        }

        int unary(int depth) {
            if (peek() == '-') {
                p++;
                return -unary(depth);
            }
            return thing(depth);
        }

        int thing(int depth) {
            char c = peek();
            if (c >= '0' && c <= '9') {
                int v = 0;
                for (int i = 0; i < 3 && peek() >= '0' && peek() <= '9'; i++) {
                    v = 10 * v + peek() - '0';
                    p++;
                }
                return v;
            }
            if (c == '(' && depth < 4) {
                p++;
                int v = expression(depth + 1);
                if (peek() != ')') {
                    throw new Wrong(p);
                }
                p++;
                return v;
            }
            if ("whafiqx".indexOf(c) < 0) {
                throw new Wrong(p);
            }
            p++;
            return world == null ? 1 : letter(c);
        }

        int letter(char c) {
            Owner o = world.owners[owner];
            switch (c) {
                case 'w':
                    return o.work;
                case 'h':
                    return o.held.size();
                case 'a':
                    return o.age;
                case 'f':
                    return o.falls;
                case 'i':
                    return owner;
                case 'q':
                    return world.waiters(owner);
                default:
                    int n = 0;
                    for (int m : o.held.values()) {
                        n += m == 6 ? 1 : 0;
                    }
                    return n;
            }
        }
    }

    World w = new World();
    String text = "";
    String rule = "";
    List<Long> row = new ArrayList<>();
    List<World> past = new ArrayList<>();
    World[] kept = new World[3];

    private void tell(long... numbers) {
        row = new ArrayList<>();
        for (long n : numbers) {
            row.add(n);
        }
    }

    private String take() {
        String t = text;
        text = "";
        return t;
    }

    private static boolean isOwner(int o) {
        return 0 <= o && o <= 7;
    }

    private static boolean isPlace(int p) {
        return 0 <= p && p <= 84;
    }

    private void remember(World before) {
        past.add(before);
        if (past.size() > 10) {
            past.remove(0);
        }
    }

    int sign(int v) {
        if (text.length() + 4 > 80) {
            return -1;
        }
        for (int i = 3; i >= 0; i--) {
            text += (char) ((v >> 8 * i) & 0xFF);
        }
        return text.length();
    }

    boolean end(int n) {
        if (n < 0 || n > text.length()) {
            return false;
        }
        text = text.substring(0, n);
        return true;
    }

    int rule() {
        String t = take();
        int wrong = Reader.wrong(t);
        if (wrong >= 0) {
            return -1 - wrong;
        }
        rule = t;
        return 0;
    }

    int modes(int a, int b) {
        if (a < 0 || a > 6 || b < 0 || b > 6) {
            return -1;
        }
        tell(both(a, b), strong(a, b) ? 1 : 0);
        return together(a, b) ? 1 : 0;
    }

    int named() {
        String t = take();
        for (int m = 0; m < 7; m++) {
            if (NAMES[m].equals(t)) {
                return m;
            }
        }
        return -1;
    }

    int owner(int owner, int what) {
        if (!isOwner(owner) || what < 0 || what > 5) {
            throw new NoSuchElementException();
        }
        Owner o = w.owners[owner];
        int[] all = {o.stand, o.age, o.work, o.falls, o.held.size(), w.cost(owner, rule)};
        return all[what];
    }

    int held(int owner, int place) {
        if (!isOwner(owner) || !isPlace(place)) {
            throw new NoSuchElementException();
        }
        return w.owners[owner].mode(place);
    }

    private static int idle(World w, int owner) {
        return w.owners[owner].stand == 0 ? -2 : w.owners[owner].stand == 2 ? -3 : 0;
    }

    static int doBegin(World w, int owner) {
        if (!isOwner(owner)) {
            return -1;
        }
        if (w.owners[owner].stand != 0) {
            return -2;
        }
        w.owners[owner].stand = 1;
        return w.owners[owner].age = ++w.began;
    }

    static int doWork(World w, int owner, int n) {
        if (!isOwner(owner) || n < 1 || n > 9) {
            return -1;
        }
        if (idle(w, owner) < 0) {
            return idle(w, owner);
        }
        return w.owners[owner].work = Math.min(99, w.owners[owner].work + n);
    }

    static int doLock(World w, int owner, int place, int mode) {
        if (!isOwner(owner) || !isPlace(place) || mode < 1 || mode > 6) {
            return -1;
        }
        if (idle(w, owner) < 0) {
            return idle(w, owner);
        }
        return w.covered(owner, place, mode) ? 1 : w.goOn(owner, place, mode, 0);
    }

    static int doUnlock(World w, int owner, int place) {
        if (!isOwner(owner) || !isPlace(place)) {
            return -1;
        }
        if (idle(w, owner) < 0) {
            return idle(w, owner);
        }
        if (w.owners[owner].mode(place) == 0) {
            return -4;
        }
        if (!w.heldBelow(owner, place).isEmpty()) {
            return -5;
        }
        int waited = w.bits(2);
        w.owners[owner].held.remove(place);
        w.serve(place);
        return Integer.bitCount(waited & w.bits(1));
    }

    static int doEnd(World w, int owner) {
        if (!isOwner(owner)) {
            return -1;
        }
        if (w.owners[owner].stand == 0) {
            return -2;
        }
        int n = w.owners[owner].held.size();
        w.goes(owner);
        return n;
    }

    static int doGather(World w, int owner, int place) {
        if (!isOwner(owner) || place < 0 || place > 20) {
            return -1;
        }
        if (idle(w, owner) < 0) {
            return idle(w, owner);
        }
        int n = w.heldBelow(owner, place).size();
        return w.gather(owner, place) ? n : -4;
    }

    static int doBulk(World w, int v) {
        if (v < 2 || v > 5) {
            return -1;
        }
        if (v == w.bulk) {
            return -2;
        }
        int was = w.bulk;
        w.bulk = v;
        return 10 + was;
    }

    int begins(int owner) {
        World before = w.copy();
        int a = doBegin(w, owner);
        if (a >= 0) {
            remember(before);
        }
        return a;
    }

    int works(int owner, int n) {
        World before = w.copy();
        int a = doWork(w, owner, n);
        if (a >= 0) {
            remember(before);
        }
        return a;
    }

    int locks(int owner, int place, int mode) {
        World before = w.copy();
        int a = doLock(w, owner, place, mode);
        if (a >= 0) {
            remember(before);
            tell(w.waitsAt(owner), a == 2 ? 1 : 0);
        }
        return Math.min(a, 1);
    }

    int unlocks(int owner, int place) {
        World before = w.copy();
        int a = doUnlock(w, owner, place);
        if (a >= 0) {
            remember(before);
        }
        return a;
    }

    int ends(int owner) {
        World before = w.copy();
        int a = doEnd(w, owner);
        if (a >= 0) {
            remember(before);
            tell(Integer.bitCount(before.bits(2) & w.bits(1)));
        }
        return a;
    }

    int gathers(int owner, int place) {
        World before = w.copy();
        int a = doGather(w, owner, place);
        if (a >= 0) {
            remember(before);
            tell(w.owners[owner].mode(place));
        }
        return a;
    }

    int bulk(int v) {
        World before = w.copy();
        int a = doBulk(w, v);
        if (a >= 0) {
            remember(before);
        }
        return a;
    }

    int fells() {
        remember(w.copy());
        row = w.fell(rule);
        return row.size();
    }

    static final String FORMS = "b0 w00 l0000 u000 e0 g000 f v0";

    static String form(char c) {
        for (String f : FORMS.split(" ")) {
            if (f.charAt(0) == c) {
                return f;
            }
        }
        return null;
    }

    int day() {
        String t = take();
        List<String> acts = new ArrayList<>();
        int p = 0;
        while (p < t.length()) {
            String f = form(t.charAt(p));
            if (f == null) {
                return -1 - p;
            }
            for (int i = 1; i < f.length(); i++) {
                if (p + i >= t.length() || t.charAt(p + i) < '0' || t.charAt(p + i) > '9') {
                    return -1 - (p + i);
                }
            }
            acts.add(t.substring(p, p + f.length()));
            p += f.length();
        }
        World before = w.copy();
        int done = 0;
        boolean refused = false;
        for (String act : acts) {
            if (doAct(act) < 0) {
                refused = true;
                break;
            }
            done++;
        }
        if (done > 0) {
            remember(before);
        }
        tell(refused ? 1 : 0, w.bits(2));
        return done;
    }

    private int doAct(String act) {
        int owner = act.length() > 1 ? act.charAt(1) - '0' : 0;
        int rest = act.length() > 2 ? Integer.parseInt(act.substring(2)) : 0;
        switch (act.charAt(0)) {
            case 'b':
                return doBegin(w, owner);
            case 'w':
                return doWork(w, owner, rest);
            case 'l':
                return doLock(w, owner, rest / 10, rest % 10);
            case 'u':
                return doUnlock(w, owner, rest);
            case 'e':
                return doEnd(w, owner);
            case 'g':
                return doGather(w, owner, rest);
            case 'f':
                return w.fell(rule).size();
            default:
                return doBulk(w, owner);
        }
    }

    int undo() {
        if (past.isEmpty()) {
            return -1;
        }
        w = past.remove(past.size() - 1);
        return past.size();
    }

    int holders(int place) {
        if (!isPlace(place)) {
            return -1;
        }
        int bits = 0;
        int all = 0;
        for (int o = 0; o < 8; o++) {
            if (w.owners[o].mode(place) != 0) {
                bits |= 1 << o;
                all = both(all, w.owners[o].mode(place));
            }
        }
        tell(all);
        return bits;
    }

    int queue(int place) {
        if (!isPlace(place)) {
            return -1;
        }
        tell();
        for (Request r : w.queue(place)) {
            row.add((long) r.owner);
        }
        return row.size();
    }

    int waits(int owner) {
        if (!isOwner(owner)) {
            return -1;
        }
        int at = w.waitsAt(owner);
        if (at == 85) {
            return -2;
        }
        List<Request> q = w.queue(at);
        for (int i = 0; i < q.size(); i++) {
            Request r = q.get(i);
            if (r.owner == owner) {
                tell(r.want, i, r.goal, r.mode);
            }
        }
        return at;
    }

    int covers(int owner, int place) {
        if (!isOwner(owner) || !isPlace(place)) {
            return -1;
        }
        Owner o = w.owners[owner];
        for (int up : above(place)) {
            if (o.mode(up) == 6) {
                tell(up);
                return 6;
            }
        }
        for (int up : above(place)) {
            if (o.mode(up) >= 3 && o.mode(up) <= 5) {
                tell(up);
                return both(o.mode(place), 3);
            }
        }
        tell(85);
        return o.mode(place);
    }

    int may(int owner, int place, int mode) {
        if (!isOwner(owner) || !isPlace(place) || mode < 1 || mode > 6) {
            return -1;
        }
        if (w.owners[owner].stand != 1) {
            return -2;
        }
        World t = w.copy();
        t.bulk = 5;
        int a = doLock(t, owner, place, mode);
        int granted = 0;
        for (int p = 0; p < 85; p++) {
            granted += t.owners[owner].mode(p) != w.owners[owner].mode(p) ? 1 : 0;
        }
        tell(t.waitsAt(owner), granted);
        return a;
    }

    int free(int owner, int table, int mode) {
        if (!isOwner(owner) || table < 1 || table > 4 || mode < 1 || mode > 6) {
            return -1;
        }
        if (w.owners[owner].stand != 1) {
            return -2;
        }
        int bits = 0;
        int i = 0;
        for (int p : below(table)) {
            if (p >= 21) {
                bits |= may(owner, p, mode) << i;
                i++;
            }
        }
        tell(Integer.bitCount(bits));
        return bits;
    }

    int behind(int owner) {
        if (!isOwner(owner)) {
            return -1;
        }
        int bits = 0;
        for (int o = 0; o < 8; o++) {
            bits |= w.waitsFor(owner, o) ? 1 << o : 0;
        }
        tell(Integer.bitCount(bits));
        return bits;
    }

    int stops(int owner) {
        if (!isOwner(owner)) {
            return -1;
        }
        tell(w.waiters(owner));
        return w.reaching(owner);
    }

    int rings() {
        int bits = w.inRings();
        tell(Integer.bitCount(bits));
        return bits;
    }

    int ring(int owner) {
        if (!isOwner(owner)) {
            return -1;
        }
        for (int length = 2; length <= 8; length++) {
            List<Long> path = new ArrayList<>();
            path.add((long) owner);
            if (closes(path, length)) {
                row = path;
                return length;
            }
        }
        return -2;
    }

    private boolean closes(List<Long> path, int length) {
        int last = (int) (long) path.get(path.size() - 1);
        if (path.size() == length) {
            return w.waitsFor(last, (int) (long) path.get(0));
        }
        for (long o = 0; o < 8; o++) {
            if (!path.contains(o) && w.waitsFor(last, (int) o)) {
                path.add(o);
                if (closes(path, length)) {
                    return true;
                }
                path.remove(path.size() - 1);
            }
        }
        return false;
    }

    int victim() {
        int v = w.victim(rule);
        if (v < 0) {
            return -2;
        }
        tell(w.cost(v, rule));
        return v;
    }

    int frees(int owner) {
        if (!isOwner(owner)) {
            return -1;
        }
        if (w.owners[owner].stand != 2) {
            return -2;
        }
        int best = -1;
        for (int set = 0; set < 256; set++) {
            if ((set & 1 << owner) != 0 || best >= 0 && Integer.bitCount(set) >= Integer.bitCount(best)) {
                continue;
            }
            World t = w.copy();
            for (int o = 0; o < 8; o++) {
                if ((set & 1 << o) != 0) {
                    t.goes(o);
                }
            }
            if (t.owners[owner].stand == 1) {
                best = set;
            }
        }
        tell(best);
        return Integer.bitCount(best);
    }

    int drains() {
        World t = w.copy();
        tell();
        int n = 0;
        while (t.bits(1) != 0) {
            for (int o = 0; o < 8; o++) {
                if (t.owners[o].stand == 1) {
                    t.goes(o);
                    n++;
                    if (n <= 12) {
                        row.add((long) o);
                    }
                    break;
                }
            }
        }
        row.add((long) t.bits(2));
        return n;
    }

    int saves(int owner, int place) {
        if (!isOwner(owner) || place < 0 || place > 20) {
            return -1;
        }
        int n = w.heldBelow(owner, place).size();
        if (n == 0) {
            return -2;
        }
        boolean could = w.owners[owner].stand == 1 && w.canGather(owner, place);
        tell(w.gatherWant(owner, place), could ? 1 : 0);
        return n;
    }

    int holds(int owner, int from) {
        if (!isOwner(owner) || !isPlace(from)) {
            return -1;
        }
        tell();
        for (int p : w.owners[owner].held.tailMap(from).keySet()) {
            if (row.size() < 12) {
                row.add((long) p);
            }
        }
        return w.owners[owner].held.tailMap(from).size();
    }

    int common(int one, int other) {
        if (!isOwner(one) || !isOwner(other) || one == other) {
            return -1;
        }
        TreeSet<Integer> both = new TreeSet<>(w.owners[one].held.keySet());
        both.retainAll(w.owners[other].held.keySet());
        int waited = 0;
        for (int p : both) {
            if (w.waitsAt(one) == p || w.waitsAt(other) == p) {
                waited++;
            }
        }
        tell(both.isEmpty() ? 85 : both.first(), waited);
        return both.size();
    }

    int queues() {
        int n = 0;
        int best = -1;
        int changes = 0;
        for (int p = 0; p < 85; p++) {
            if (!w.queue(p).isEmpty()) {
                n++;
                if (best < 0 || w.queue(p).size() > w.queue(best).size()) {
                    best = p;
                }
                changes += w.changes.get(p).size();
            }
        }
        if (n == 0) {
            tell();
        } else {
            tell(best, changes);
        }
        return n;
    }

    int sum() {
        tell(w.sum());
        return 0;
    }

    int law() {
        String t = take();
        int wrong = Reader.wrong(t);
        if (wrong >= 0) {
            return -100 - wrong;
        }
        int v = w.victim(t);
        tell(v < 0 ? 0 : w.cost(v, t), w.copy().fell(t).size(), w.copy().fell(rule).size());
        return v < 0 ? 8 : v;
    }

    private int r;

    private int draw(int n) {
        r = r * 1103515245 + 12345;
        return (int) (Integer.toUnsignedLong(r) / 65536 % n);
    }

    int years(int seed, int n) {
        if (n < 1 || n > 40) {
            return -1;
        }
        World t = w.copy();
        r = seed;
        for (int i = 0; i < n; i++) {
            int what = draw(6);
            int owner = draw(8);
            if (what == 0) {
                doBegin(t, owner);
            } else if (what == 4) {
                doWork(t, owner, draw(9) + 1);
            } else if (what == 5) {
                int way = draw(3);
                if (way == 0) {
                    doEnd(t, owner);
                } else if (way == 1) {
                    t.fell(rule);
                } else {
                    doGather(t, owner, draw(21));
                }
            } else {
                int place = draw(85);
                doLock(t, owner, place, draw(6) + 1);
            }
        }
        tell(t.sum(), t.bits(1), t.falls());
        return Integer.bitCount(t.bits(2));
    }

    boolean keep(int i) {
        if (i < 0 || i > 2) {
            return false;
        }
        kept[i] = w.copy();
        return true;
    }

    boolean again(int i) {
        if (i < 0 || i > 2 || kept[i] == null) {
            return false;
        }
        w = kept[i].copy();
        past.clear();
        return true;
    }

    int count(int what) {
        int modes = 0;
        for (Owner o : w.owners) {
            modes += o.held.size();
        }
        int requests = 0;
        for (int p = 0; p < 85; p++) {
            requests += w.queue(p).size();
        }
        int[] all = {w.bits(1), w.bits(2), w.began, w.bulk, requests, modes, w.falls(), past.size(), row.size(),
            text.length()};
        return what < 0 || what > 9 ? -100 : all[what];
    }

    long row(int i) {
        if (i < 0 || i >= row.size()) {
            throw new NoSuchElementException();
        }
        return row.get(i);
    }
}
