/** A wheel whose calls are counted: nothing is promised about an object after its 512th call. */
final class Counted {
    static final int MOST_CALLS = 512;

    private final PromiseWheel wheel = new PromiseWheel();
    private int calls;

    int left() {
        return MOST_CALLS - calls;
    }

    private PromiseWheel used() {
        if (calls == MOST_CALLS) {
            throw new IllegalStateException("a test uses a wheel for more than 512 calls");
        }
        calls++;
        return wheel;
    }

    int give(int delay, int period, int repetitions) {
        return used().give(delay, period, repetitions);
    }

    int breakOff(int promise) {
        return used().breakOff(promise);
    }

    int move(int promise, int delay) {
        return used().move(promise, delay);
    }

    int pass(int ticks) {
        return used().pass(ticks);
    }

    int sweep() {
        return used().sweep();
    }

    int set(int what, int value) {
        return used().set(what, value);
    }

    int take(int slot) {
        return used().take(slot);
    }

    int restore(int slot) {
        return used().restore(slot);
    }

    int undo() {
        return used().undo();
    }

    int append(int character) {
        return used().append(character);
    }

    int clearText() {
        return used().clearText();
    }

    int run() {
        return used().run();
    }

    int failure(int what) {
        return used().failure(what);
    }

    int count(int what) {
        return used().count(what);
    }

    int promise(int promise, int what) {
        return used().promise(promise, what);
    }

    int slot(int ring, int slot, int what) {
        return used().slot(ring, slot, what);
    }

    int stands(int ring, int slot, int place) {
        return used().stands(ring, slot, place);
    }

    int call(int call, int what) {
        return used().call(call, what);
    }

    int next(int way, int what) {
        return used().next(way, what);
    }

    int when(int promise) {
        return used().when(promise);
    }

    int would(int ticks, int what) {
        return used().would(ticks, what);
    }

    int leastRoom(int ticks) {
        return used().leastRoom(ticks);
    }

    // ---- several calls at once

    void write(String text) {
        for (int at = 0; at < text.length(); at++) {
            append(text.charAt(at));
        }
    }

    /** The text alone is run, whatever stood there. */
    int runs(String text) {
        clearText();
        write(text);
        return run();
    }

    /** Lets more ticks pass than one call may. */
    void passTo(int tick) {
        int now = count(0);
        while (now < tick) {
            int ticks = Math.min(600, tick - now);
            pass(ticks);
            now += ticks;
        }
    }

    /** So many promises alike, not repeated. */
    void giveMany(int promises, int delay) {
        for (int promise = 0; promise < promises; promise++) {
            give(delay, 0, 0);
        }
    }
}
