import java.util.NoSuchElementException;

/** A LockLadder that counts its calls: behind the 512th its answers are free, so no test may ask it any more. */
final class Used {
    static final int MOST = 512;
    /** What stands for a NoSuchElementException. */
    static final long THROWS = Long.MIN_VALUE;

    private final LockLadder x = new LockLadder();
    private int calls;

    private LockLadder one() {
        calls++;
        if (calls > MOST) {
            throw new IllegalStateException("this test asks one object more than " + MOST + " times");
        }
        return x;
    }

    int left() {
        return MOST - calls;
    }

    int sign(int v) {
        return one().sign(v);
    }

    boolean end(int n) {
        return one().end(n);
    }

    int rule() {
        return one().rule();
    }

    int modes(int a, int b) {
        return one().modes(a, b);
    }

    int named() {
        return one().named();
    }

    long owner(int owner, int what) {
        try {
            return one().owner(owner, what);
        } catch (NoSuchElementException e) {
            return THROWS;
        }
    }

    long held(int owner, int place) {
        try {
            return one().held(owner, place);
        } catch (NoSuchElementException e) {
            return THROWS;
        }
    }

    int begins(int owner) {
        return one().begins(owner);
    }

    int works(int owner, int n) {
        return one().works(owner, n);
    }

    int locks(int owner, int place, int mode) {
        return one().locks(owner, place, mode);
    }

    int unlocks(int owner, int place) {
        return one().unlocks(owner, place);
    }

    int ends(int owner) {
        return one().ends(owner);
    }

    int gathers(int owner, int place) {
        return one().gathers(owner, place);
    }

    int bulk(int v) {
        return one().bulk(v);
    }

    int fells() {
        return one().fells();
    }

    int day() {
        return one().day();
    }

    int undo() {
        return one().undo();
    }

    int holders(int place) {
        return one().holders(place);
    }

    int queue(int place) {
        return one().queue(place);
    }

    int waits(int owner) {
        return one().waits(owner);
    }

    int covers(int owner, int place) {
        return one().covers(owner, place);
    }

    int may(int owner, int place, int mode) {
        return one().may(owner, place, mode);
    }

    int free(int owner, int table, int mode) {
        return one().free(owner, table, mode);
    }

    int behind(int owner) {
        return one().behind(owner);
    }

    int stops(int owner) {
        return one().stops(owner);
    }

    int rings() {
        return one().rings();
    }

    int ring(int owner) {
        return one().ring(owner);
    }

    int victim() {
        return one().victim();
    }

    int frees(int owner) {
        return one().frees(owner);
    }

    int drains() {
        return one().drains();
    }

    int saves(int owner, int place) {
        return one().saves(owner, place);
    }

    int holds(int owner, int from) {
        return one().holds(owner, from);
    }

    int common(int one, int other) {
        return one().common(one, other);
    }

    int queues() {
        return one().queues();
    }

    int sum() {
        return one().sum();
    }

    int law() {
        return one().law();
    }

    int years(int seed, int n) {
        return one().years(seed, n);
    }

    boolean keep(int i) {
        return one().keep(i);
    }

    boolean again(int i) {
        return one().again(i);
    }

    int count(int what) {
        return one().count(what);
    }

    long row(int i) {
        try {
            return one().row(i);
        } catch (NoSuchElementException e) {
            return THROWS;
        }
    }

    /** The text as THE TEXT: four signs a call, and cut. */
    void say(String text) {
        end(0);
        for (int p = 0; p < text.length(); p += 4) {
            int v = 0;
            for (int i = p; i < p + 4; i++) {
                v = v << 8 | (i < text.length() ? text.charAt(i) & 255 : 0);
            }
            sign(v);
        }
        if (text.length() % 4 != 0) {
            end(text.length());
        }
    }
}
