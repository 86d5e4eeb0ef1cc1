/** Promises 1 to 7: each sentence has a test of its own. */
final class ActionEdges extends Edges {
    private static final int[] NO_PROMISES = {MIN, -1, GIVEN, 39, 40, MAX};
    private static final int[] NO_DELAYS = {MIN, -1, 0, 512, MAX};

    private ActionEdges() {
    }

    static void go() {
        newObject();
        giveDue();
        giveSlot();
        giveAction();
        giveDelay();
        givePeriod();
        giveRepetitions();
        giveNumber();
        giveWrong();
        giveFull();
        breakStays();
        breakAction();
        breakPromise();
        breakReturns();
        breakWrong();
        breakIllegal();
        moveLeaves();
        moveDue();
        moveSlot();
        moveAction();
        movePromise();
        moveDelay();
        moveReturns();
        moveWrong();
        moveIllegal();
        pass();
        passAction();
        passTicks();
        passReturns();
        passWrong();
        passAbove();
        sweep();
        sweepAction();
        sweepReturns();
        set();
        setAction();
        setRoom();
        setBound();
        setDrift();
        setValue();
        setReturns();
        setWrong();
    }

    // ---- promise 1

    private static void newObject() {
        sentence("1", "Creates an empty wheel, with an empty text.");
        Counted wheel = new Counted();
        for (int what = 0; what <= 13; what++) {
            same("count(" + what + ")", wheel.count(what), 0);
        }
        same("the room", wheel.count(14), 3);
        same("the bound", wheel.count(15), 5);
        same("the drift", wheel.count(16), 0);
        for (int line = 0; line < 24; line++) {
            line("slot", wheel, line / 8, line % 8);
            same("how many", wheel.slot(line / 8, line % 8, 0), 0);
            same("smallest due tick", wheel.slot(line / 8, line % 8, 2), NONE);
        }
        line("queue", wheel, 3, 0);
        same("no promise", wheel.promise(0, 0), INVALID);
        same("no call", wheel.call(0, 0), NONE);
        same("nobody waits", wheel.next(0, 0), NONE);
        same("no failure", wheel.failure(0), NONE);
        same("no text", wheel.clearText(), 0);
        int[] before = Looks.atAll(NEW);
        Looks.atAll(BUSY);
        Check.holds("one object is not another",
                Looks.difference(before, Looks.atAll(NEW)).isEmpty());
    }

    // ---- promise 2

    private static void giveDue() {
        sentence("2", "Gives a promise: its due tick is the present one plus the delay,");
        Counted wheel = new Counted();
        wheel.give(1, 0, 0);
        wheel.give(511, 0, 0);
        wheel.pass(600);
        wheel.give(1, 0, 0);
        wheel.give(511, 0, 0);
        same("at 0", wheel.promise(0, DUE), 1);
        same("at 0", wheel.promise(1, DUE), 511);
        same("at 600", wheel.promise(2, DUE), 601);
        same("at 600", wheel.promise(3, DUE), 1111);
        wheel.passTo(20000);
        wheel.give(511, 0, 0);
        same("above the last tick", wheel.promise(4, DUE), 20511);
    }

    private static void giveSlot() {
        sentence("2", "and it is put into a slot.");
        Counted wheel = new Counted();
        wheel.give(7, 0, 0);
        wheel.give(8, 0, 0);
        wheel.give(63, 0, 0);
        wheel.give(64, 0, 0);
        wheel.give(64, 5, 9);
        tells("7", wheel, 0, 0, 7, 0, 0, 0, 7, 0, 0, 0);
        tells("8", wheel, 1, 0, 8, 0, 0, 1, 1, 0, 0, 0);
        tells("63", wheel, 2, 0, 63, 0, 0, 1, 7, 0, 0, 0);
        tells("64", wheel, 3, 0, 64, 0, 0, 2, 1, 0, 0, 0);
        tells("64, behind", wheel, 4, 0, 64, 5, 9, 2, 1, 1, 0, 0);
        same("it is no fall", wheel.count(7), 0);
    }

    private static void giveAction() {
        sentence("2", "This is an action.");
        action("give", NEW, wheel -> wheel.give(1, 0, 0));
        action("give", BUSY, wheel -> wheel.give(511, 511, 99));
    }

    private static void giveDelay() {
        sentence("2", "`delay`: 1 to 511");
        for (int delay : NO_DELAYS) {
            refused("delay " + delay, BUSY, INVALID, wheel -> wheel.give(delay, 0, 0));
        }
        answers("delay 1", BUSY, GIVEN, wheel -> wheel.give(1, 0, 0));
        answers("delay 511", BUSY, GIVEN, wheel -> wheel.give(511, 0, 0));
    }

    private static void givePeriod() {
        sentence("2", "`period`: 0 to 511");
        for (int period : new int[] {MIN, -1, 512, MAX}) {
            refused("period " + period, BUSY, INVALID, wheel -> wheel.give(1, period, 0));
            refused("period " + period + " repeated", BUSY, INVALID, wheel -> wheel.give(1, period, 1));
        }
        answers("period 0", BUSY, GIVEN, wheel -> wheel.give(1, 0, 0));
        answers("period 1", BUSY, GIVEN, wheel -> wheel.give(1, 1, 0));
        answers("period 511", BUSY, GIVEN, wheel -> wheel.give(1, 511, 0));
    }

    private static void giveRepetitions() {
        sentence("2", "`repetitions`: 0 to 99; 0 if the period is 0");
        for (int repetitions : new int[] {MIN, -1, 100, MAX}) {
            refused("repetitions " + repetitions, BUSY, INVALID, wheel -> wheel.give(1, 1, repetitions));
            refused("no period, repetitions " + repetitions, BUSY, INVALID,
                    wheel -> wheel.give(1, 0, repetitions));
        }
        refused("no period, 1 repetition", BUSY, INVALID, wheel -> wheel.give(1, 0, 1));
        refused("no period, 99 repetitions", BUSY, INVALID, wheel -> wheel.give(1, 0, 99));
        answers("none", BUSY, GIVEN, wheel -> wheel.give(1, 1, 0));
        answers("none without a period", BUSY, GIVEN, wheel -> wheel.give(1, 0, 0));
        answers("99", BUSY, GIVEN, wheel -> wheel.give(1, 1, 99));
        answers("1", BUSY, GIVEN, wheel -> wheel.give(1, 511, 1));
    }

    private static void giveNumber() {
        sentence("2", "Returns its number;");
        answers("the first", NEW, 0, wheel -> wheel.give(9, 0, 0));
        answers("behind done, broken and swept ones", BUSY, GIVEN, wheel -> wheel.give(9, 0, 0));
        answers("the last", NEW.then(wheel -> wheel.giveMany(39, 3)), 39, wheel -> wheel.give(9, 0, 0));
    }

    private static void giveWrong() {
        sentence("2", "INVALID_ARGUMENT if an argument is not as told;");
        refused("all three", BUSY, INVALID, wheel -> wheel.give(0, 512, 100));
        refused("the delay alone", BUSY, INVALID, wheel -> wheel.give(0, 5, 5));
        refused("the period alone", BUSY, INVALID, wheel -> wheel.give(5, -1, 0));
        refused("the repetitions alone", BUSY, INVALID, wheel -> wheel.give(5, 5, 100));
        refused("the delay when 40 are given", FORTY, INVALID, wheel -> wheel.give(512, 0, 0));
        refused("the period when 40 are given", FORTY, INVALID, wheel -> wheel.give(1, 512, 0));
        refused("the repetitions when 40 are given", FORTY, INVALID, wheel -> wheel.give(1, 0, 1));
    }

    private static void giveFull() {
        sentence("2", "CAPACITY_EXCEEDED if 40 have been given.");
        answers("39 have been given", FORTY.then(Counted::undo), 39, wheel -> wheel.give(1, 0, 0));
        refused("40 have been given", FORTY, FULL, wheel -> wheel.give(1, 0, 0));
        refused("40, with repetitions", FORTY, FULL, wheel -> wheel.give(511, 511, 99));
    }

    // ---- promise 3

    private static void breakStays() {
        sentence("3", "Breaks a promise, which stays where it stands.");
        Counted slot = new Counted();
        slot.giveMany(3, 9);
        slot.breakOff(1);
        line("in its slot", slot, 1, 1, 0, 1, 2);
        tells("in its slot", slot, 1, 3, 9, 0, 0, 1, 1, 1);
        slot.pass(7);
        line("until its slot falls", slot, 1, 1, 0, 1, 2);
        Counted queue = new Counted();
        queue.set(0, 1);
        queue.giveMany(4, 1);
        queue.pass(1);
        queue.breakOff(2);
        line("in the queue", queue, 3, 0, 1, 2, 3);
        tells("in the queue", queue, 2, 3, 1, 0, 0, NONE, NONE, 1);
        Counted far = new Counted();
        far.give(511, 7, 9);
        far.breakOff(0);
        tells("it keeps its parts", far, 0, 3, 511, 7, 9, 2, 7, 0, 0, 0);
    }

    private static void breakAction() {
        sentence("3", "This is an action.");
        action("of a waiting one", BUSY, wheel -> wheel.breakOff(WAITING));
        action("of a ready one", BUSY, wheel -> wheel.breakOff(READY));
    }

    private static void breakPromise() {
        sentence("3", "`promise`: a promise");
        refused("none is given", NEW, INVALID, wheel -> wheel.breakOff(0));
        refused("not given", BUSY, INVALID, wheel -> wheel.breakOff(GIVEN));
        refused("-1", BUSY, INVALID, wheel -> wheel.breakOff(-1));
        refused("the forty-first", FORTY, INVALID, wheel -> wheel.breakOff(40));
        answers("the first", FORTY, 1, wheel -> wheel.breakOff(0));
        answers("the last", FORTY, 1, wheel -> wheel.breakOff(39));
    }

    private static void breakReturns() {
        sentence("3", "Returns the number of broken ones that stand in slots and in the queue then;");
        answers("it, one in a slot and one in the queue", BUSY, 3, wheel -> wheel.breakOff(WAITING));
        answers("it is ready", BUSY, 3, wheel -> wheel.breakOff(READY));
        answers("swept ones do not count", BUSY.then(Counted::sweep), 1, wheel -> wheel.breakOff(READY));
        Counted all = FORTY.told();
        for (int promise = 0; promise < 40; promise++) {
            same("more than the bound, before a tick", all.breakOff(promise), promise + 1);
        }
    }

    private static void breakWrong() {
        sentence("3", "INVALID_ARGUMENT if there is no such promise;");
        for (int promise : NO_PROMISES) {
            refused("promise " + promise, BUSY, INVALID, wheel -> wheel.breakOff(promise));
        }
        Story undone = NEW.then(wheel -> wheel.giveMany(2, 9)).then(Counted::undo);
        refused("one that was undone", undone, INVALID, wheel -> wheel.breakOff(1));
    }

    private static void breakIllegal() {
        sentence("3", "ILLEGAL_STATE if it is neither waiting nor ready.");
        refused("done", BUSY, ILLEGAL, wheel -> wheel.breakOff(DONE));
        refused("broken in a slot", BUSY, ILLEGAL, wheel -> wheel.breakOff(BROKEN_IN_SLOT));
        refused("broken in the queue", BUSY, ILLEGAL, wheel -> wheel.breakOff(BROKEN_IN_QUEUE));
        refused("swept", BUSY, ILLEGAL, wheel -> wheel.breakOff(SWEPT));
        answers("waiting in ring 0", BUSY, 3, wheel -> wheel.breakOff(WAITING));
        answers("waiting in ring 1", BUSY, 3, wheel -> wheel.breakOff(IN_RING_1));
        answers("waiting in ring 2", BUSY, 3, wheel -> wheel.breakOff(IN_RING_2));
        answers("ready", BUSY, 3, wheel -> wheel.breakOff(READY));
    }

    // ---- promise 4

    private static void moveLeaves() {
        sentence("4", "Moves a waiting promise: it leaves its slot,");
        int[][] stay = {{1, 2}, {0, 2}, {0, 1}};
        for (int promise = 0; promise < 3; promise++) {
            Counted wheel = new Counted();
            wheel.giveMany(3, 20);
            wheel.move(promise, 100);
            line("without " + promise, wheel, 1, 2, stay[promise]);
            same("two are left", wheel.slot(1, 2, 0), 2);
            same("it stands elsewhere", wheel.promise(promise, RING), 2);
        }
        Counted alone = new Counted();
        alone.give(3, 0, 0);
        alone.move(0, 4);
        line("nobody is left", alone, 0, 3);
        same("it is not called at its old tick", alone.pass(3), 0);
        same("but at its new one", alone.pass(1), 1);
    }

    private static void moveDue() {
        sentence("4", "its due tick becomes the present one plus the delay,");
        Counted wheel = new Counted();
        wheel.give(511, 7, 9);
        wheel.pass(100);
        wheel.move(0, 1);
        tells("the least", wheel, 0, 0, 101, 7, 9, 0, 5, 0);
        wheel.move(0, 511);
        tells("the greatest", wheel, 0, 0, 611, 7, 9, 2, 1, 0);
        wheel.passTo(600);
        wheel.move(0, 20);
        wheel.passTo(619);
        same("not yet", wheel.count(5), 0);
        wheel.pass(1);
        same("called at it", wheel.call(0, 2), 620);
        same("not late", wheel.count(6), 0);
    }

    private static void moveSlot() {
        sentence("4", "and it is put into a slot.");
        Counted wheel = new Counted();
        wheel.give(1, 0, 0);
        wheel.give(7, 0, 0);
        wheel.give(8, 0, 0);
        wheel.give(64, 0, 0);
        int[] delays = {7, 8, 63, 64, 511};
        int[] rings = {0, 1, 1, 2, 2};
        int[] slots = {7, 1, 7, 1, 7};
        int[] places = {1, 1, 0, 1, 0};
        for (int at = 0; at < delays.length; at++) {
            wheel.move(0, delays[at]);
            tells("delay " + delays[at], wheel, 0, 0, delays[at], 0, 0, rings[at], slots[at], places[at]);
        }
        same("it is no fall", wheel.count(7), 0);
    }

    private static void moveAction() {
        sentence("4", "This is an action.");
        action("into another ring", BUSY, wheel -> wheel.move(WAITING, 511));
        action("to the same place", BUSY, wheel -> wheel.move(IN_RING_2, 298));
    }

    private static void movePromise() {
        sentence("4", "`promise`: a promise");
        refused("none is given", NEW, INVALID, wheel -> wheel.move(0, 1));
        refused("not given", BUSY, INVALID, wheel -> wheel.move(GIVEN, 1));
        refused("-1", BUSY, INVALID, wheel -> wheel.move(-1, 1));
        refused("the forty-first", FORTY, INVALID, wheel -> wheel.move(40, 1));
        answers("the first", FORTY, 1, wheel -> wheel.move(0, 1));
        answers("the last", FORTY, 196, wheel -> wheel.move(39, 1));
    }

    private static void moveDelay() {
        sentence("4", "`delay`: 1 to 511");
        for (int delay : NO_DELAYS) {
            refused("delay " + delay, BUSY, INVALID, wheel -> wheel.move(WAITING, delay));
        }
        answers("delay 1", BUSY, 4, wheel -> wheel.move(WAITING, 1));
        answers("delay 511", BUSY, 4, wheel -> wheel.move(WAITING, 511));
    }

    private static void moveReturns() {
        sentence("4", "Returns the due tick that it had;");
        Counted wheel = new Counted();
        wheel.give(511, 0, 0);
        wheel.pass(3);
        same("the given one", wheel.move(0, 5), 511);
        same("the moved one", wheel.move(0, 5), 8);
        same("even the same one", wheel.move(0, 1), 8);
        answers("the repeated one", BUSY, 4, busy -> busy.move(WAITING, 9));
    }

    private static void moveWrong() {
        sentence("4", "INVALID_ARGUMENT if there is no such promise or delay is out of range;");
        for (int promise : NO_PROMISES) {
            refused("promise " + promise, BUSY, INVALID, wheel -> wheel.move(promise, 1));
            refused("promise " + promise + ", delay 0", BUSY, INVALID, wheel -> wheel.move(promise, 0));
        }
        refused("a delay too small for a done one", BUSY, INVALID, wheel -> wheel.move(DONE, 0));
        refused("a delay too large for a done one", BUSY, INVALID, wheel -> wheel.move(DONE, 512));
        refused("a delay too large for a ready one", BUSY, INVALID, wheel -> wheel.move(READY, 512));
    }

    private static void moveIllegal() {
        sentence("4", "ILLEGAL_STATE if it is not waiting.");
        refused("ready", BUSY, ILLEGAL, wheel -> wheel.move(READY, 1));
        refused("done", BUSY, ILLEGAL, wheel -> wheel.move(DONE, 511));
        refused("broken in a slot", BUSY, ILLEGAL, wheel -> wheel.move(BROKEN_IN_SLOT, 1));
        refused("broken in the queue", BUSY, ILLEGAL, wheel -> wheel.move(BROKEN_IN_QUEUE, 1));
        refused("swept", BUSY, ILLEGAL, wheel -> wheel.move(SWEPT, 1));
        answers("waiting in ring 0", BUSY, 4, wheel -> wheel.move(WAITING, 1));
        answers("waiting in ring 1", BUSY, 20, wheel -> wheel.move(IN_RING_1, 1));
        answers("waiting in ring 2", BUSY, 300, wheel -> wheel.move(IN_RING_2, 1));
    }

    // ---- promise 5

    private static void pass() {
        sentence("5", "Lets ticks pass.");
        Story one = BUSY.then(wheel -> wheel.pass(598));
        Story many = BUSY.then(wheel -> {
            for (int step = 0; step < 46; step++) {
                wheel.pass(13);
            }
        });
        sameWheel("one by one or at once", one, many);
        same("the present tick", one.told().count(0), 600);
    }

    private static void passAction() {
        sentence("5", "This is an action.");
        action("one tick", BUSY, wheel -> wheel.pass(1));
        action("many ticks are one action", BUSY, wheel -> wheel.pass(600));
        action("nothing is there", NEW, wheel -> wheel.pass(1));
    }

    private static void passTicks() {
        sentence("5", "`ticks`: 1 to 600");
        refused("0", BUSY, INVALID, wheel -> wheel.pass(0));
        refused("601", BUSY, INVALID, wheel -> wheel.pass(601));
        Counted wheel = new Counted();
        same("1", wheel.pass(1), 0);
        same("1 passed", wheel.count(0), 1);
        same("600", wheel.pass(600), 0);
        same("600 passed", wheel.count(0), 601);
    }

    private static void passReturns() {
        sentence("5", "Returns the number of calls;");
        Counted wheel = new Counted();
        wheel.giveMany(5, 2);
        wheel.give(2, 3, 9);
        same("none", wheel.pass(1), 0);
        same("as many as the room", wheel.pass(1), 3);
        same("late ones, too, not those before", wheel.pass(1), 3);
        same("repetitions", wheel.pass(600), 9);
        same("of one promise in one call", wheel.promise(5, CALLED), 10);
        answers("swept ones are no calls", BUSY, 1, busy -> busy.pass(1));
    }

    private static void passWrong() {
        sentence("5", "INVALID_ARGUMENT if ticks is out of range;");
        for (int ticks : new int[] {MIN, -600, -1, 0, 601, 20000, MAX}) {
            refused(ticks + " ticks", BUSY, INVALID, wheel -> wheel.pass(ticks));
            refused(ticks + " ticks at the end", AT_THE_LAST_TICK, INVALID, wheel -> wheel.pass(ticks));
        }
    }

    private static void passAbove() {
        sentence("5", "CAPACITY_EXCEEDED if the present tick would be above 20000.");
        refused("one more", AT_THE_LAST_TICK, FULL, wheel -> wheel.pass(1));
        refused("600 more", AT_THE_LAST_TICK, FULL, wheel -> wheel.pass(600));
        Story near = wheel -> {
            wheel.passTo(19500);
            wheel.give(400, 0, 0);
        };
        refused("501 at 19500", near, FULL, wheel -> wheel.pass(501));
        answers("500 at 19500", near, 1, wheel -> wheel.pass(500));
        same("20000", near.then(wheel -> wheel.pass(500)).told().count(0), 20000);
        Story last = wheel -> wheel.passTo(19999);
        refused("2 at 19999", last, FULL, wheel -> wheel.pass(2));
        answers("1 at 19999", last, 0, wheel -> wheel.pass(1));
    }

    // ---- promise 6

    private static void sweep() {
        sentence("6", "Sweeps all broken ones that stand in slots and in the queue.");
        Counted wheel = BUSY.told();
        wheel.breakOff(WAITING);
        wheel.breakOff(IN_RING_2);
        wheel.sweep();
        int[] states = {2, 4, 1, 4, 0, 4, 4, 4};
        for (int promise = 0; promise < GIVEN; promise++) {
            same("state of " + promise, wheel.promise(promise, STATE), states[promise]);
        }
        line("the queue", wheel, 3, 0, READY);
        line("ring 0", wheel, 0, 4);
        line("ring 1", wheel, 1, 2, IN_RING_1);
        line("ring 2", wheel, 2, 4);
        same("none is left", wheel.count(4), 0);
        same("swept in all", wheel.count(8), 5);
        sweptPlaces();
    }

    /** The first, one between and the last of a slot; then the slot goes on as a shorter one. */
    private static void sweptPlaces() {
        Counted wheel = new Counted();
        wheel.giveMany(6, 9);
        wheel.breakOff(0);
        wheel.breakOff(3);
        wheel.breakOff(5);
        wheel.sweep();
        line("closed up", wheel, 1, 1, 1, 2, 4);
        same("the place of the last one", wheel.promise(4, PLACE), 2);
        wheel.give(9, 0, 0);
        line("goes on", wheel, 1, 1, 1, 2, 4, 6);
    }

    private static void sweepAction() {
        sentence("6", "This is an action.");
        action("with broken ones", BUSY, Counted::sweep);
        action("without broken ones", BUSY.then(wheel -> {
            wheel.sweep();
            wheel.undo();
            wheel.undo();
            wheel.undo();
        }), Counted::sweep);
        action("on an empty wheel", NEW, Counted::sweep);
    }

    private static void sweepReturns() {
        sentence("6", "Returns how many are swept.");
        answers("none", NEW, 0, Counted::sweep);
        answers("one in a slot and one in the queue", BUSY, 2, Counted::sweep);
        answers("none is swept twice", BUSY.then(Counted::sweep), 0, Counted::sweep);
        answers("all of forty", FORTY.then(wheel -> {
            for (int promise = 0; promise < 40; promise++) {
                wheel.breakOff(promise);
            }
        }), 40, Counted::sweep);
    }

    // ---- promise 7

    private static void set() {
        sentence("7", "Sets a number.");
        int[] values = {7, 8, 1};
        for (int what = 0; what <= 2; what++) {
            Counted wheel = BUSY.told();
            int[] before = {1, 5, 0};
            wheel.set(what, values[what]);
            before[what] = values[what];
            for (int other = 0; other <= 2; other++) {
                same("set " + what + ", look at " + other, wheel.count(14 + other), before[other]);
            }
        }
    }

    private static void setAction() {
        sentence("7", "This is an action.");
        for (int number = 0; number <= 2; number++) {
            int what = number;
            int[] same = {1, 5, 0};
            action("set " + what, BUSY, wheel -> wheel.set(what, 1));
            action("set " + what + " to what it is", BUSY, wheel -> wheel.set(what, same[what]));
        }
    }

    private static void setRange(int what, int least, int most) {
        for (int value : new int[] {MIN, least - 1, most + 1, MAX}) {
            refused("set " + what + " to " + value, BUSY, INVALID, wheel -> wheel.set(what, value));
        }
        for (int value = least; value <= most; value++) {
            Counted wheel = new Counted();
            Check.holds("set " + what + " to " + value, wheel.set(what, value) >= 0);
            same("set " + what + " to " + value, wheel.count(14 + what), value);
        }
    }

    private static void setRoom() {
        sentence("7", "`what`: 0 for the room (1 to 20),");
        setRange(0, 1, 20);
        Counted wheel = new Counted();
        wheel.set(0, 2);
        wheel.giveMany(3, 1);
        same("it is the room", wheel.pass(1), 2);
    }

    private static void setBound() {
        sentence("7", "1 for the bound (0 to 40),");
        setRange(1, 0, 40);
        Counted wheel = new Counted();
        wheel.set(1, 1);
        wheel.giveMany(2, 99);
        wheel.breakOff(0);
        wheel.pass(1);
        same("it is the bound", wheel.count(8), 0);
        wheel.breakOff(1);
        same("nothing is swept by set() itself", wheel.set(1, 0), 1);
        same("two stand", wheel.count(4), 2);
        wheel.pass(1);
        same("it is the bound", wheel.count(8), 2);
    }

    private static void setDrift() {
        sentence("7", "2 for the drift (0 or 1)");
        setRange(2, 0, 1);
        Counted wheel = new Counted();
        wheel.set(0, 1);
        wheel.set(2, 1);
        wheel.give(1, 0, 0);
        wheel.give(1, 9, 9);
        wheel.pass(2);
        same("it is the drift", wheel.promise(1, DUE), 11);
    }

    private static void setValue() {
        sentence("7", "`value`: the new number");
        Counted wheel = new Counted();
        wheel.set(0, 19);
        same("room", wheel.count(14), 19);
        wheel.set(1, 20);
        same("bound", wheel.count(15), 20);
        wheel.set(2, 1);
        same("drift", wheel.count(16), 1);
        wheel.set(2, 0);
        same("drift", wheel.count(16), 0);
    }

    private static void setReturns() {
        sentence("7", "Returns the previous number;");
        Counted wheel = new Counted();
        same("room at first", wheel.set(0, 20), 3);
        same("room", wheel.set(0, 1), 20);
        same("room", wheel.set(0, 1), 1);
        same("bound at first", wheel.set(1, 40), 5);
        same("bound", wheel.set(1, 0), 40);
        same("bound", wheel.set(1, 0), 0);
        same("drift at first", wheel.set(2, 1), 0);
        same("drift", wheel.set(2, 0), 1);
        same("drift", wheel.set(2, 0), 0);
    }

    private static void setWrong() {
        sentence("7", "INVALID_ARGUMENT if an argument is out of range.");
        for (int what : new int[] {MIN, -1, 3, 14, MAX}) {
            refused("what " + what, BUSY, INVALID, wheel -> wheel.set(what, 1));
            refused("what " + what + ", value 41", BUSY, INVALID, wheel -> wheel.set(what, 41));
        }
        refused("a bound as the room", BUSY, INVALID, wheel -> wheel.set(0, 40));
        refused("a room as the drift", BUSY, INVALID, wheel -> wheel.set(2, 3));
        refused("no room", BUSY, INVALID, wheel -> wheel.set(0, 0));
    }
}
