/** A wheel whose calls are counted: nothing is promised about an object after its 512th call. */
final class Counted implements Face {
    static final int MOST_CALLS = 512;

    private final PromiseWheel wheel = new PromiseWheel();
    private int calls;

    int left() {
        return MOST_CALLS - calls;
    }

    private PromiseWheel used() {
        if (calls == MOST_CALLS) {
            throw new IllegalStateException("a test uses a wheel for more than 512 calls");
        }
        calls++;
        return wheel;
    }

    @Override
    public int give(int delay, int period, int repetitions) {
        return used().give(delay, period, repetitions);
    }

    @Override
    public int breakOff(int promise) {
        return used().breakOff(promise);
    }

    @Override
    public int move(int promise, int delay) {
        return used().move(promise, delay);
    }

    @Override
    public int pass(int ticks) {
        return used().pass(ticks);
    }

    @Override
    public int sweep() {
        return used().sweep();
    }

    @Override
    public int set(int what, int value) {
        return used().set(what, value);
    }

    @Override
    public int take(int slot) {
        return used().take(slot);
    }

    @Override
    public int restore(int slot) {
        return used().restore(slot);
    }

    @Override
    public int undo() {
        return used().undo();
    }

    @Override
    public int append(int character) {
        return used().append(character);
    }

    @Override
    public int clearText() {
        return used().clearText();
    }

    @Override
    public int run() {
        return used().run();
    }

    @Override
    public int failure(int what) {
        return used().failure(what);
    }

    @Override
    public int count(int what) {
        return used().count(what);
    }

    @Override
    public int promise(int promise, int what) {
        return used().promise(promise, what);
    }

    @Override
    public int slot(int ring, int slot, int what) {
        return used().slot(ring, slot, what);
    }

    @Override
    public int stands(int ring, int slot, int place) {
        return used().stands(ring, slot, place);
    }

    @Override
    public int call(int call, int what) {
        return used().call(call, what);
    }

    @Override
    public int next(int way, int what) {
        return used().next(way, what);
    }

    @Override
    public int when(int promise) {
        return used().when(promise);
    }

    @Override
    public int would(int ticks, int what) {
        return used().would(ticks, what);
    }

    @Override
    public int leastRoom(int ticks) {
        return used().leastRoom(ticks);
    }

    // ---- several calls at once

    void write(String text) {
        for (int at = 0; at < text.length(); at++) {
            append(text.charAt(at));
        }
    }

    /** The text alone is run, whatever stood there. */
    int runs(String text) {
        clearText();
        write(text);
        return run();
    }

    /** Lets more ticks pass than one call may. */
    void passTo(int tick) {
        int now = count(0);
        while (now < tick) {
            int ticks = Math.min(600, tick - now);
            pass(ticks);
            now += ticks;
        }
    }

    /** So many promises alike, not repeated. */
    void giveMany(int promises, int delay) {
        for (int promise = 0; promise < promises; promise++) {
            give(delay, 0, 0);
        }
    }
}
