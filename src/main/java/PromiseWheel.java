import java.util.Arrays;

/**
 * A wheel of promises in three rings: promises stand in slots until their tick, fall from the
 * outer rings into the inner ones, and are called a few in each tick. What every call does is
 * told by the numbered promises of the document.
 */
public final class PromiseWheel {
    public static final int INVALID_ARGUMENT = -1;
    public static final int ILLEGAL_STATE = -2;
    public static final int CAPACITY_EXCEEDED = -3;
    public static final int NONE = -9;

    private static final int MOST_PROMISES = 40;
    private static final int MOST_DELAY = 511;
    private static final int MOST_PERIOD = 511;
    private static final int MOST_REPETITIONS = 99;
    private static final int MOST_TICKS = 600;
    private static final int MOST_TICKS_OF_ROOMS = 200;
    private static final int LAST_TICK = 20000;
    private static final int MOST_ROOM = 20;
    private static final int MOST_BOUND = 40;
    private static final int SNAPSHOTS = 2;
    private static final int MOST_CHARACTERS = 120;
    private static final int GREATEST_CHARACTER = 255;
    private static final int LAST_COUNT = 16;
    private static final int LAST_FACT = 8;

    private static final int RINGS = 3;
    private static final int SLOTS = 8;
    // The slots of all rings and the queue are numbered as lines, so that one chain serves all.
    private static final int QUEUE = RINGS * SLOTS;
    private static final int LINES = QUEUE + 1;
    private static final int NOBODY = -1;
    private static final int NOWHERE = -1;

    private static final int WAITING = 0;
    private static final int READY = 1;
    private static final int DONE = 2;
    private static final int BROKEN = 3;
    private static final int SWEPT = 4;

    private static final int NO_COMMAND = 0;
    private static final int GIVE = 1;
    private static final int BREAK = 2;
    private static final int MOVE = 3;
    private static final int PASS = 4;
    private static final int SWEEP = 5;

    private final State state;
    private final History history;
    private final Program program;
    private final Forecast forecast;

    public PromiseWheel() {
        state = new State();
        history = new History();
        program = new Program();
        forecast = new Forecast();
    }

    // ---- promises

    public int give(int delay, int period, int repetitions) {
        history.note(state);
        return recorded(state.wheel.addPromise(delay, period, repetitions));
    }

    public int breakOff(int promise) {
        history.note(state);
        return recorded(state.wheel.breakPromise(promise));
    }

    public int move(int promise, int delay) {
        history.note(state);
        return recorded(state.wheel.movePromise(promise, delay));
    }

    public int pass(int ticks) {
        history.note(state);
        return recorded(state.wheel.passTicks(ticks));
    }

    public int sweep() {
        history.note(state);
        return recorded(state.wheel.sweepAll());
    }

    public int set(int what, int value) {
        history.note(state);
        return recorded(state.wheel.changeSetting(what, value));
    }

    // ---- snapshots

    public int take(int slot) {
        history.note(state);
        return recorded(state.takeSnapshot(slot));
    }

    public int restore(int slot) {
        history.note(state);
        return recorded(state.restoreSnapshot(slot));
    }

    public int undo() {
        return history.stepBack(state);
    }

    // ---- text

    public int append(int character) {
        if (character < 1 || character > GREATEST_CHARACTER) {
            return INVALID_ARGUMENT;
        }
        return program.text.add(character);
    }

    public int clearText() {
        return program.text.makeEmpty();
    }

    public int run() {
        history.note(state);
        program.begin();
        for (int turn = 0; turn < MOST_CHARACTERS && program.readCommand(); turn++) {
            program.finishCommand(performCommand());
        }
        if (program.hasFailed()) {
            history.copyNotedInto(state);
            return -1000 - program.part(Program.PLACE);
        }
        program.text.makeEmpty();
        return recorded(program.commandsDone());
    }

    public int failure(int what) {
        return program.part(what);
    }

    // ---- looking

    public int count(int what) {
        if (what < 0 || what > LAST_COUNT) {
            return INVALID_ARGUMENT;
        }
        switch (what) {
            case 11:
                return state.snapshotsTaken();
            case 12:
                return history.size();
            case 13:
                return program.text.length();
            default:
                return state.wheel.figure(what);
        }
    }

    public int promise(int promise, int what) {
        if (!state.wheel.promises.has(promise) || what < 0 || what > LAST_FACT) {
            return INVALID_ARGUMENT;
        }
        return state.wheel.tellPromise(promise, what);
    }

    public int slot(int ring, int slot, int what) {
        if (ring < 0 || ring >= RINGS || slot < 0 || slot >= SLOTS || what < 0 || what > 2) {
            return INVALID_ARGUMENT;
        }
        return state.wheel.tellLine(ring * SLOTS + slot, what);
    }

    public int stands(int ring, int slot, int place) {
        boolean isQueue = ring == RINGS;
        int slots = isQueue ? 1 : SLOTS;
        if (ring < 0 || ring > RINGS || slot < 0 || slot >= slots || place < 0) {
            return INVALID_ARGUMENT;
        }
        int standing = state.wheel.lines.at(isQueue ? QUEUE : ring * SLOTS + slot, place);
        return standing == NOBODY ? NONE : standing;
    }

    public int call(int call, int what) {
        if (call < 0 || call >= Diary.MOST_CALLS || what < 0 || what >= Diary.FACTS) {
            return INVALID_ARGUMENT;
        }
        return state.wheel.diary.read(call, what);
    }

    public int next(int way, int what) {
        if (way < 0 || way > 1 || what < 0 || what > 1) {
            return INVALID_ARGUMENT;
        }
        Wheel wheel = state.wheel;
        int first = way == 0 ? wheel.earliestOfAll() : wheel.earliestByRings();
        if (first == NOBODY) {
            return NONE;
        }
        return what == 0 ? first : wheel.promises.fact(first, Promises.DUE);
    }

    // ---- what could be, which changes nothing

    public int when(int promise) {
        Promises promises = state.wheel.promises;
        if (!promises.has(promise)) {
            return INVALID_ARGUMENT;
        }
        if (!promises.isAlive(promise)) {
            return ILLEGAL_STATE;
        }
        return forecast.tickOfCall(state.wheel, promise);
    }

    public int would(int ticks, int what) {
        if (ticks < 1 || ticks > MOST_TICKS || what < 0 || what > 2) {
            return INVALID_ARGUMENT;
        }
        return forecast.outcome(state.wheel, ticks, what);
    }

    public int leastRoom(int ticks) {
        if (ticks < 1 || ticks > MOST_TICKS_OF_ROOMS) {
            return INVALID_ARGUMENT;
        }
        return forecast.leastTimelyRoom(state.wheel, ticks);
    }

    private int recorded(int answer) {
        if (answer >= 0) {
            history.keepNoted();
        }
        return answer;
    }

    private int performCommand() {
        Wheel wheel = state.wheel;
        switch (program.command()) {
            case GIVE:
                return wheel.addPromise(program.number(0), program.number(1), program.number(2));
            case BREAK:
                return wheel.breakPromise(program.number(0));
            case MOVE:
                return wheel.movePromise(program.number(0), program.number(1));
            case PASS:
                return wheel.passTicks(program.number(0));
            case SWEEP:
                return wheel.sweepAll();
            default:
                return INVALID_ARGUMENT;
        }
    }

    /** What is known of each promise. One row holds all of it, so that a state is copied fast. */
    private static final class Promises {
        static final int STATE = 0;
        static final int DUE = 1;
        static final int PERIOD = 2;
        static final int LEFT = 3;
        static final int CALLED = 4;
        static final int LATENESS = 5;
        private static final int FACTS = 6;

        private final int[] facts = new int[MOST_PROMISES * FACTS];
        private int given;

        void copyFrom(Promises other) {
            System.arraycopy(other.facts, 0, facts, 0, MOST_PROMISES * FACTS);
            given = other.given;
        }

        int given() {
            return given;
        }

        boolean has(int promise) {
            return promise >= 0 && promise < given;
        }

        int fact(int promise, int which) {
            if (promise < 0 || promise >= MOST_PROMISES || which < 0 || which >= FACTS) {
                return 0;
            }
            return facts[promise * FACTS + which];
        }

        void write(int promise, int which, int value) {
            if (promise < 0 || promise >= MOST_PROMISES || which < 0 || which >= FACTS) {
                return;
            }
            facts[promise * FACTS + which] = value;
        }

        boolean isIn(int promise, int state) {
            return fact(promise, STATE) == state;
        }

        boolean isAlive(int promise) {
            int state = fact(promise, STATE);
            return state == WAITING || state == READY;
        }

        int add(int due, int period, int repetitions) {
            int promise = given;
            given++;
            write(promise, STATE, WAITING);
            write(promise, DUE, due);
            write(promise, PERIOD, period);
            write(promise, LEFT, repetitions);
            write(promise, CALLED, 0);
            write(promise, LATENESS, 0);
            return promise;
        }

        int howManyIn(int state) {
            int found = 0;
            for (int promise = 0; promise < given; promise++) {
                if (isIn(promise, state)) {
                    found++;
                }
            }
            return found;
        }

        /** The one that is due first, of two that are due at once the one with the smaller number. */
        int earlier(int one, int other) {
            if (one == NOBODY) {
                return other;
            }
            if (other == NOBODY) {
                return one;
            }
            int oneDue = fact(one, DUE);
            int otherDue = fact(other, DUE);
            if (oneDue == otherDue) {
                return Math.min(one, other);
            }
            return oneDue < otherDue ? one : other;
        }
    }

    /**
     * Who stands where. A promise stands in one line at most, so each line is a chain through one
     * shared row of followers, and no line needs a row of its own.
     */
    private static final class Lines {
        private final int[] first = new int[LINES];
        private final int[] last = new int[LINES];
        private final int[] length = new int[LINES];
        private final int[] line = new int[MOST_PROMISES];
        private final int[] behind = new int[MOST_PROMISES];

        Lines() {
            Arrays.fill(first, NOBODY);
            Arrays.fill(last, NOBODY);
            Arrays.fill(line, NOWHERE);
            Arrays.fill(behind, NOBODY);
        }

        void copyFrom(Lines other) {
            System.arraycopy(other.first, 0, first, 0, LINES);
            System.arraycopy(other.last, 0, last, 0, LINES);
            System.arraycopy(other.length, 0, length, 0, LINES);
            System.arraycopy(other.line, 0, line, 0, MOST_PROMISES);
            System.arraycopy(other.behind, 0, behind, 0, MOST_PROMISES);
        }

        int lengthOf(int which) {
            return which < 0 || which >= LINES ? 0 : length[which];
        }

        int frontOf(int which) {
            return which < 0 || which >= LINES ? NOBODY : first[which];
        }

        int follower(int promise) {
            return promise < 0 || promise >= MOST_PROMISES ? NOBODY : behind[promise];
        }

        int lineOf(int promise) {
            return promise < 0 || promise >= MOST_PROMISES ? NOWHERE : line[promise];
        }

        int at(int which, int place) {
            if (place < 0 || place >= lengthOf(which)) {
                return NOBODY;
            }
            int here = frontOf(which);
            for (int step = 0; step < place; step++) {
                here = follower(here);
            }
            return here;
        }

        int placeOf(int promise) {
            int which = lineOf(promise);
            int standing = lengthOf(which);
            int here = frontOf(which);
            for (int place = 0; place < standing; place++) {
                if (here == promise) {
                    return place;
                }
                here = follower(here);
            }
            return NONE;
        }

        void join(int which, int promise) {
            if (which < 0 || which >= LINES || promise < 0 || promise >= MOST_PROMISES) {
                return;
            }
            int tail = last[which];
            if (tail < 0 || tail >= MOST_PROMISES) {
                first[which] = promise;
            } else {
                behind[tail] = promise;
            }
            last[which] = promise;
            behind[promise] = NOBODY;
            line[promise] = which;
            length[which]++;
        }

        void leave(int promise) {
            int which = lineOf(promise);
            if (which < 0 || which >= LINES || promise < 0 || promise >= MOST_PROMISES) {
                return;
            }
            int ahead = NOBODY;
            int here = first[which];
            for (int step = 0; step < MOST_PROMISES && here != promise; step++) {
                ahead = here;
                here = follower(here);
            }
            if (ahead < 0 || ahead >= MOST_PROMISES) {
                first[which] = behind[promise];
            } else {
                behind[ahead] = behind[promise];
            }
            if (last[which] == promise) {
                last[which] = ahead;
            }
            behind[promise] = NOBODY;
            line[promise] = NOWHERE;
            length[which]--;
        }
    }

    /** The latest calls, in a row that is written round and round. */
    private static final class Diary {
        static final int MOST_CALLS = 12;
        static final int FACTS = 3;

        private final int[] facts = new int[MOST_CALLS * FACTS];
        private int calls;

        void copyFrom(Diary other) {
            System.arraycopy(other.facts, 0, facts, 0, MOST_CALLS * FACTS);
            calls = other.calls;
        }

        int calls() {
            return calls;
        }

        void write(int promise, int due, int tick) {
            int at = Math.floorMod(calls, MOST_CALLS) * FACTS;
            facts[at] = promise;
            facts[at + 1] = due;
            facts[at + 2] = tick;
            calls++;
        }

        int read(int call, int what) {
            if (call < 0 || call >= Math.min(calls, MOST_CALLS) || what < 0 || what >= FACTS) {
                return NONE;
            }
            return facts[Math.floorMod(calls - 1 - call, MOST_CALLS) * FACTS + what];
        }
    }

    /** All that a snapshot keeps: the promises, where they stand, the settings and the counts. */
    private static final class Wheel {
        private final Promises promises = new Promises();
        private final Lines lines = new Lines();
        private final Diary diary = new Diary();
        private int now;
        private int room = 3;
        private int bound = 5;
        private int drift;
        private int brokenStanding;
        private int lateCalls;
        private int falls;
        private int swept;
        private int passedOver;
        private int longestQueue;

        void copyFrom(Wheel other) {
            promises.copyFrom(other.promises);
            lines.copyFrom(other.lines);
            diary.copyFrom(other.diary);
            now = other.now;
            room = other.room;
            bound = other.bound;
            drift = other.drift;
            brokenStanding = other.brokenStanding;
            lateCalls = other.lateCalls;
            falls = other.falls;
            swept = other.swept;
            passedOver = other.passedOver;
            longestQueue = other.longestQueue;
        }

        int addPromise(int delay, int period, int repetitions) {
            if (delay < 1 || delay > MOST_DELAY || period < 0 || period > MOST_PERIOD) {
                return INVALID_ARGUMENT;
            }
            int mostRepetitions = period == 0 ? 0 : MOST_REPETITIONS;
            if (repetitions < 0 || repetitions > mostRepetitions) {
                return INVALID_ARGUMENT;
            }
            if (promises.given() >= MOST_PROMISES) {
                return CAPACITY_EXCEEDED;
            }
            int due = now + delay;
            int promise = promises.add(due, period, repetitions);
            lines.join(lineFor(due), promise);
            return promise;
        }

        int breakPromise(int promise) {
            if (!promises.has(promise)) {
                return INVALID_ARGUMENT;
            }
            if (!promises.isAlive(promise)) {
                return ILLEGAL_STATE;
            }
            promises.write(promise, Promises.STATE, BROKEN);
            brokenStanding++;
            return brokenStanding;
        }

        int movePromise(int promise, int delay) {
            if (!promises.has(promise) || delay < 1 || delay > MOST_DELAY) {
                return INVALID_ARGUMENT;
            }
            if (!promises.isIn(promise, WAITING)) {
                return ILLEGAL_STATE;
            }
            int dueBefore = promises.fact(promise, Promises.DUE);
            int due = now + delay;
            lines.leave(promise);
            promises.write(promise, Promises.DUE, due);
            lines.join(lineFor(due), promise);
            return dueBefore;
        }

        int passTicks(int ticks) {
            if (ticks < 1 || ticks > MOST_TICKS) {
                return INVALID_ARGUMENT;
            }
            if (now + ticks > LAST_TICK) {
                return CAPACITY_EXCEEDED;
            }
            int callsBefore = diary.calls();
            for (int tick = 0; tick < ticks; tick++) {
                passTick();
            }
            return diary.calls() - callsBefore;
        }

        int sweepAll() {
            int sweptBefore = swept;
            for (int promise = 0; promise < promises.given(); promise++) {
                if (promises.isIn(promise, BROKEN)) {
                    lines.leave(promise);
                    noteSwept(promise);
                }
            }
            return swept - sweptBefore;
        }

        int changeSetting(int which, int value) {
            int before = setting(which);
            switch (which) {
                case 0:
                    if (value < 1 || value > MOST_ROOM) {
                        return INVALID_ARGUMENT;
                    }
                    room = value;
                    return before;
                case 1:
                    if (value < 0 || value > MOST_BOUND) {
                        return INVALID_ARGUMENT;
                    }
                    bound = value;
                    return before;
                case 2:
                    if (value < 0 || value > 1) {
                        return INVALID_ARGUMENT;
                    }
                    drift = value;
                    return before;
                default:
                    return INVALID_ARGUMENT;
            }
        }

        int setting(int which) {
            switch (which) {
                case 0:
                    return room;
                case 1:
                    return bound;
                case 2:
                    return drift;
                default:
                    return INVALID_ARGUMENT;
            }
        }

        /** The five steps of a tick. */
        void passTick() {
            now++;
            if (now % (SLOTS * SLOTS) == 0) {
                letFall(2);
            }
            if (now % SLOTS == 0) {
                letFall(1);
            }
            letArrive();
            serveQueue();
            if (brokenStanding > bound) {
                sweepAll();
            }
            longestQueue = Math.max(longestQueue, lines.lengthOf(QUEUE));
        }

        private void letFall(int ring) {
            int line = ring * SLOTS + presentSlot(ring);
            // The length is read once: who falls could join a line behind, never this one again.
            int standing = lines.lengthOf(line);
            for (int step = 0; step < standing; step++) {
                int promise = lines.frontOf(line);
                lines.leave(promise);
                if (promises.isIn(promise, BROKEN)) {
                    noteSwept(promise);
                } else {
                    lines.join(lineFor(promises.fact(promise, Promises.DUE)), promise);
                    falls++;
                }
            }
        }

        private void letArrive() {
            int line = presentSlot(0);
            int standing = lines.lengthOf(line);
            for (int step = 0; step < standing; step++) {
                int promise = lines.frontOf(line);
                lines.leave(promise);
                if (promises.isIn(promise, BROKEN)) {
                    noteSwept(promise);
                } else {
                    promises.write(promise, Promises.STATE, READY);
                    lines.join(QUEUE, promise);
                }
            }
        }

        private void serveQueue() {
            int standing = lines.lengthOf(QUEUE);
            int served = 0;
            for (int step = 0; step < standing && served < room; step++) {
                int promise = lines.frontOf(QUEUE);
                lines.leave(promise);
                if (promises.isIn(promise, BROKEN)) {
                    noteSwept(promise);
                } else {
                    callPromise(promise);
                    served++;
                }
            }
        }

        private void callPromise(int promise) {
            int due = promises.fact(promise, Promises.DUE);
            int late = now - due;
            if (late > 0) {
                lateCalls++;
                promises.write(promise, Promises.LATENESS,
                        promises.fact(promise, Promises.LATENESS) + late);
            }
            diary.write(promise, due, now);
            promises.write(promise, Promises.CALLED, promises.fact(promise, Promises.CALLED) + 1);
            int left = promises.fact(promise, Promises.LEFT);
            if (left < 1) {
                promises.write(promise, Promises.STATE, DONE);
                return;
            }
            int dueAgain = dueOfRepetition(due, promises.fact(promise, Promises.PERIOD));
            promises.write(promise, Promises.LEFT, left - 1);
            promises.write(promise, Promises.DUE, dueAgain);
            promises.write(promise, Promises.STATE, WAITING);
            lines.join(lineFor(dueAgain), promise);
        }

        private int dueOfRepetition(int due, int period) {
            if (drift == 1 || period < 1) {
                return now + period;
            }
            int periods = (now - due) / period + 1;
            passedOver += periods - 1;
            return due + periods * period;
        }

        /** For one that has left its line already: then it is only counted. */
        private void noteSwept(int promise) {
            promises.write(promise, Promises.STATE, SWEPT);
            brokenStanding--;
            swept++;
        }

        private int lineFor(int due) {
            int distance = due - now;
            if (distance < SLOTS) {
                return due % SLOTS;
            }
            if (distance < SLOTS * SLOTS) {
                return SLOTS + due / SLOTS % SLOTS;
            }
            return 2 * SLOTS + due / (SLOTS * SLOTS) % SLOTS;
        }

        /** A shift, since a slot of each ring is as long as the whole ring inside it, 8 slots. */
        private int presentSlot(int ring) {
            return (now >> (3 * ring)) & (SLOTS - 1);
        }

        int figure(int what) {
            switch (what) {
                case 0:
                    return now;
                case 1:
                    return promises.given();
                case 2:
                    return promises.howManyIn(WAITING);
                case 3:
                    return promises.howManyIn(READY);
                case 4:
                    return brokenStanding;
                case 5:
                    return diary.calls();
                case 6:
                    return lateCalls;
                case 7:
                    return falls;
                case 8:
                    return swept;
                case 9:
                    return passedOver;
                case 10:
                    return longestQueue;
                default:
                    return setting(what - 14);
            }
        }

        int tellPromise(int promise, int what) {
            int line = lines.lineOf(promise);
            boolean isInSlot = line != NOWHERE && line != QUEUE;
            switch (what) {
                case 0:
                    return promises.fact(promise, Promises.STATE);
                case 1:
                    return promises.fact(promise, Promises.DUE);
                case 2:
                    return promises.fact(promise, Promises.PERIOD);
                case 3:
                    return promises.fact(promise, Promises.LEFT);
                case 4:
                    return isInSlot ? line / SLOTS : NONE;
                case 5:
                    return isInSlot ? line % SLOTS : NONE;
                case 6:
                    return lines.placeOf(promise);
                case 7:
                    return promises.fact(promise, Promises.CALLED);
                case 8:
                    return promises.fact(promise, Promises.LATENESS);
                default:
                    return INVALID_ARGUMENT;
            }
        }

        int tellLine(int line, int what) {
            if (what == 0) {
                return lines.lengthOf(line);
            }
            if (what == 1) {
                return brokenIn(line);
            }
            int first = earliestIn(line);
            return first == NOBODY ? NONE : promises.fact(first, Promises.DUE);
        }

        private int brokenIn(int line) {
            int standing = lines.lengthOf(line);
            int here = lines.frontOf(line);
            int found = 0;
            for (int place = 0; place < standing; place++) {
                if (promises.isIn(here, BROKEN)) {
                    found++;
                }
                here = lines.follower(here);
            }
            return found;
        }

        private int earliestIn(int line) {
            int standing = lines.lengthOf(line);
            int here = lines.frontOf(line);
            int found = NOBODY;
            for (int place = 0; place < standing; place++) {
                if (!promises.isIn(here, BROKEN)) {
                    found = promises.earlier(found, here);
                }
                here = lines.follower(here);
            }
            return found;
        }

        int earliestOfAll() {
            int found = NOBODY;
            for (int promise = 0; promise < promises.given(); promise++) {
                if (promises.isIn(promise, WAITING)) {
                    found = promises.earlier(found, promise);
                }
            }
            return found;
        }

        int earliestByRings() {
            int found = NOBODY;
            for (int ring = 0; ring < RINGS; ring++) {
                found = promises.earlier(found, earliestInRing(ring));
            }
            return found;
        }

        private int earliestInRing(int ring) {
            int present = presentSlot(ring);
            int found = NOBODY;
            for (int step = 1; step <= SLOTS && found == NOBODY; step++) {
                found = earliestIn(ring * SLOTS + (present + step) % SLOTS);
            }
            return found;
        }
    }

    /** All that undo() brings back: the wheel and the snapshots of it. */
    private static final class State {
        private final Wheel wheel = new Wheel();
        private final Wheel[] snapshots = new Wheel[SNAPSHOTS];
        private final boolean[] taken = new boolean[SNAPSHOTS];

        State() {
            for (int slot = 0; slot < SNAPSHOTS; slot++) {
                snapshots[slot] = new Wheel();
            }
        }

        void copyFrom(State other) {
            wheel.copyFrom(other.wheel);
            for (int slot = 0; slot < SNAPSHOTS; slot++) {
                taken[slot] = other.taken[slot];
                Wheel mine = snapshots[slot];
                Wheel theirs = other.snapshots[slot];
                if (taken[slot] && mine != null && theirs != null) {
                    mine.copyFrom(theirs);
                }
            }
        }

        int takeSnapshot(int slot) {
            if (slot < 0 || slot >= SNAPSHOTS) {
                return INVALID_ARGUMENT;
            }
            Wheel snapshot = snapshots[slot];
            if (snapshot != null) {
                snapshot.copyFrom(wheel);
            }
            taken[slot] = true;
            return wheel.now;
        }

        int restoreSnapshot(int slot) {
            if (slot < 0 || slot >= SNAPSHOTS) {
                return INVALID_ARGUMENT;
            }
            Wheel snapshot = snapshots[slot];
            if (!taken[slot] || snapshot == null) {
                return ILLEGAL_STATE;
            }
            wheel.copyFrom(snapshot);
            return wheel.now;
        }

        int snapshotsTaken() {
            int found = 0;
            for (int slot = 0; slot < SNAPSHOTS; slot++) {
                if (taken[slot]) {
                    found++;
                }
            }
            return found;
        }
    }

    /**
     * The states before the latest actions, in rows that are used round and round. There is one row
     * more than states are kept: the state before a call is noted there while it is not yet known
     * whether the call succeeds, and is kept only if it does.
     */
    private static final class History {
        private static final int MOST_STATES = 5;
        private static final int ROWS = MOST_STATES + 1;

        private final State[] rows = new State[ROWS];
        private int noted;
        private int states;

        History() {
            for (int row = 0; row < ROWS; row++) {
                rows[row] = new State();
            }
        }

        int size() {
            return states;
        }

        void note(State state) {
            State row = rowAt(noted);
            if (row != null) {
                row.copyFrom(state);
            }
        }

        void keepNoted() {
            noted = (noted + 1) % ROWS;
            states = Math.min(states + 1, MOST_STATES);
        }

        void copyNotedInto(State state) {
            State row = rowAt(noted);
            if (row != null) {
                state.copyFrom(row);
            }
        }

        int stepBack(State state) {
            if (states < 1) {
                return ILLEGAL_STATE;
            }
            noted = (noted + ROWS - 1) % ROWS;
            states--;
            copyNotedInto(state);
            return states;
        }

        private State rowAt(int row) {
            return row < 0 || row >= ROWS ? null : rows[row];
        }
    }

    /** The characters that have been appended, and how far they have been read as tokens. */
    private static final class Text {
        static final int END = 0;
        static final int LETTERS = 1;
        static final int DIGITS = 2;
        static final int OTHER = 3;
        private static final int MOST_DIGITS = 4;

        private final int[] characters = new int[MOST_CHARACTERS];
        private int length;
        private int start;
        private int end;
        private int kind;

        int length() {
            return length;
        }

        int add(int character) {
            if (length < 0 || length >= MOST_CHARACTERS) {
                return CAPACITY_EXCEEDED;
            }
            characters[length] = character;
            length++;
            return length;
        }

        int makeEmpty() {
            int before = length;
            length = 0;
            return before;
        }

        void beginReading() {
            start = 0;
            end = 0;
            kind = END;
        }

        int tokenStart() {
            return start;
        }

        boolean isAtEnd() {
            return kind == END;
        }

        void readToken() {
            start = end;
            for (int step = 0; step < MOST_CHARACTERS && at(start) == ' '; step++) {
                start++;
            }
            kind = kindOf(at(start));
            end = start;
            if (kind == END) {
                return;
            }
            end++;
            if (kind == OTHER) {
                return;
            }
            for (int step = 0; step < MOST_CHARACTERS && kindOf(at(end)) == kind; step++) {
                end++;
            }
        }

        boolean isWord(String word) {
            if (kind != LETTERS || end - start != word.length()) {
                return false;
            }
            for (int offset = 0; offset < word.length(); offset++) {
                if (at(start + offset) != word.charAt(offset)) {
                    return false;
                }
            }
            return true;
        }

        boolean isSemicolon() {
            return kind == OTHER && at(start) == ';';
        }

        boolean isNumber() {
            int digits = end - start;
            return kind == DIGITS && digits <= MOST_DIGITS && (digits == 1 || at(start) != '0');
        }

        int numberValue() {
            int value = 0;
            for (int step = 0; step < MOST_DIGITS && start + step < end; step++) {
                value = value * 10 + (at(start + step) - '0');
            }
            return value;
        }

        /** 0 stands for the end: no character has this code. */
        private int at(int offset) {
            if (offset < 0 || offset >= length || offset >= MOST_CHARACTERS) {
                return 0;
            }
            return characters[offset];
        }

        private static int kindOf(int character) {
            if (character == 0) {
                return END;
            }
            if (character >= 'a' && character <= 'z') {
                return LETTERS;
            }
            return character >= '0' && character <= '9' ? DIGITS : OTHER;
        }
    }

    /** The text, its reading as commands, and the latest failure of such a program. */
    private static final class Program {
        static final int PLACE = 1;
        private static final int PARTS = 4;
        private static final int WRONG_TOKEN = 1;
        private static final int WRONG_CALL = 2;
        private static final int MOST_NUMBERS = 3;

        private final Text text = new Text();
        private final int[] numbers = new int[MOST_NUMBERS];
        private final int[] failureParts = new int[PARTS];
        private boolean everFailed;
        private boolean failed;
        private int command;
        private int commandPlace;
        private int commandsDone;

        void begin() {
            text.beginReading();
            failed = false;
            command = NO_COMMAND;
            commandPlace = 0;
            commandsDone = 0;
        }

        boolean hasFailed() {
            return failed;
        }

        int command() {
            return command;
        }

        int commandsDone() {
            return commandsDone;
        }

        int number(int which) {
            return which < 0 || which >= MOST_NUMBERS ? 0 : numbers[which];
        }

        int part(int which) {
            if (which < 0 || which >= PARTS) {
                return INVALID_ARGUMENT;
            }
            return everFailed ? failureParts[which] : NONE;
        }

        /** Answers whether there is a command to perform: not at the end, nor when it has failed. */
        boolean readCommand() {
            if (failed) {
                return false;
            }
            text.readToken();
            if (text.isAtEnd()) {
                return false;
            }
            command = commandOfWord();
            commandPlace = text.tokenStart();
            if (command == NO_COMMAND) {
                return failAtToken();
            }
            int due = numbersOf(command);
            for (int which = 0; which < due && which < MOST_NUMBERS; which++) {
                text.readToken();
                if (!text.isNumber()) {
                    return failAtToken();
                }
                numbers[which] = text.numberValue();
            }
            text.readToken();
            return text.isSemicolon() || failAtToken();
        }

        void finishCommand(int answer) {
            if (answer < 0) {
                fail(WRONG_CALL, commandPlace, answer);
            } else {
                commandsDone++;
            }
        }

        private boolean failAtToken() {
            fail(WRONG_TOKEN, text.tokenStart(), NONE);
            return false;
        }

        private void fail(int kind, int place, int code) {
            failed = true;
            everFailed = true;
            failureParts[0] = kind;
            failureParts[PLACE] = place;
            failureParts[2] = commandsDone;
            failureParts[3] = code;
        }

        private int commandOfWord() {
            if (text.isWord("give")) {
                return GIVE;
            }
            if (text.isWord("break")) {
                return BREAK;
            }
            if (text.isWord("move")) {
                return MOVE;
            }
            if (text.isWord("pass")) {
                return PASS;
            }
            return text.isWord("sweep") ? SWEEP : NO_COMMAND;
        }

        private static int numbersOf(int command) {
            switch (command) {
                case GIVE:
                    return 3;
                case MOVE:
                    return 2;
                case BREAK:
                case PASS:
                    return 1;
                default:
                    return 0;
            }
        }
    }

    /** Lets ticks pass on a copy of the wheel, so that looking ahead changes nothing. */
    private static final class Forecast {
        private final Wheel imagined = new Wheel();

        int tickOfCall(Wheel wheel, int promise) {
            imagined.copyFrom(wheel);
            int before = imagined.promises.fact(promise, Promises.CALLED);
            for (int tick = 0; tick < MOST_TICKS; tick++) {
                imagined.passTick();
                if (imagined.promises.fact(promise, Promises.CALLED) != before) {
                    return imagined.now;
                }
            }
            return NONE;
        }

        int outcome(Wheel wheel, int ticks, int what) {
            imagined.copyFrom(wheel);
            int mostReady = 0;
            for (int tick = 0; tick < ticks; tick++) {
                imagined.passTick();
                mostReady = Math.max(mostReady, imagined.promises.howManyIn(READY));
            }
            switch (what) {
                case 0:
                    return imagined.diary.calls() - wheel.diary.calls();
                case 1:
                    return imagined.lateCalls - wheel.lateCalls;
                default:
                    return mostReady;
            }
        }

        int leastTimelyRoom(Wheel wheel, int ticks) {
            for (int room = 1; room <= MOST_ROOM; room++) {
                imagined.copyFrom(wheel);
                imagined.room = room;
                if (isTimely(ticks)) {
                    return room;
                }
            }
            return NONE;
        }

        private boolean isTimely(int ticks) {
            int before = imagined.lateCalls;
            for (int tick = 0; tick < ticks && imagined.lateCalls == before; tick++) {
                imagined.passTick();
            }
            return imagined.lateCalls == before;
        }
    }
}
