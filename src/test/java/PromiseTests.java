/** For each promise of the document: ordinary inputs, the edges it names, and wrong inputs. */
public final class PromiseTests {
    private static final int INVALID = -1;
    private static final int ILLEGAL = -2;
    private static final int FULL = -3;
    private static final int NONE = -9;

    private static final int STATE = 0;
    private static final int DUE = 1;
    private static final int PERIOD = 2;
    private static final int LEFT = 3;
    private static final int RING = 4;
    private static final int SLOT = 5;
    private static final int PLACE = 6;
    private static final int CALLED = 7;
    private static final int LATENESS = 8;

    /** At tick 2: two are in the queue, two wait again, and a broken one is far away. */
    private static final Story RESTORABLE = wheel -> {
        wheel.set(0, 1);
        for (int promise = 0; promise < 4; promise++) {
            wheel.give(1, 3, 9);
        }
        wheel.give(200, 0, 0);
        wheel.breakOff(4);
        wheel.pass(2);
        wheel.write("x");
        wheel.run();
        wheel.write("yz");
    };
    private static final Story CHANGES = wheel -> {
        wheel.set(0, 9);
        wheel.set(1, 9);
        wheel.set(2, 1);
        wheel.move(0, 77);
        for (int promise = 0; promise < 9; promise++) {
            wheel.give(4, 0, 0);
        }
        wheel.set(0, 1);
        wheel.pass(70);
        wheel.sweep();
    };
    private static final Story WAITING_IN_TURN = RESTORABLE.then(wheel -> wheel.give(300, 0, 0));

    private PromiseTests() {
    }

    public static void main(String[] arguments) {
        constants();
        newObject();
        give();
        breakOff();
        move();
        rings();
        tickOrder();
        queueAndRoom();
        repetitions();
        passEdges();
        sweepAndBound();
        set();
        take();
        restore();
        undo();
        undoOfEachAction();
        append();
        clearText();
        run();
        runFailures();
        runIsOneAction();
        failure();
        count();
        promise();
        slot();
        stands();
        call();
        next();
        when();
        would();
        leastRoom();
        Check.finish("PromiseTests");
    }

    private static void same(String what, long got, long due) {
        Check.same(what, got, due);
    }

    private static Counted withText(String text) {
        Counted wheel = new Counted();
        wheel.write(text);
        return wheel;
    }

    private static void constants() {
        same("INVALID_ARGUMENT", PromiseWheel.INVALID_ARGUMENT, -1);
        same("ILLEGAL_STATE", PromiseWheel.ILLEGAL_STATE, -2);
        same("CAPACITY_EXCEEDED", PromiseWheel.CAPACITY_EXCEEDED, -3);
        same("NONE", PromiseWheel.NONE, -9);
    }

    private static void newObject() {
        Counted wheel = new Counted();
        for (int what = 0; what <= 13; what++) {
            same("1: count(" + what + ")", wheel.count(what), 0);
        }
        same("1: room", wheel.count(14), 3);
        same("1: bound", wheel.count(15), 5);
        same("1: drift", wheel.count(16), 0);
        for (int ring = 0; ring < 3; ring++) {
            for (int slot = 0; slot < 8; slot++) {
                same("1: slot", wheel.slot(ring, slot, 0), 0);
            }
        }
        same("1: undo", wheel.undo(), ILLEGAL);
        same("1: restore", wheel.restore(0), ILLEGAL);
        same("1: failure", wheel.failure(0), NONE);
        same("1: call", wheel.call(0, 0), NONE);
        same("1: next", wheel.next(0, 0), NONE);
    }

    private static void give() {
        Counted wheel = new Counted();
        same("2: delay 0", wheel.give(0, 0, 0), INVALID);
        same("2: delay 512", wheel.give(512, 0, 0), INVALID);
        same("2: period -1", wheel.give(1, -1, 0), INVALID);
        same("2: period 512", wheel.give(1, 512, 0), INVALID);
        same("2: repetitions -1", wheel.give(1, 1, -1), INVALID);
        same("2: repetitions 100", wheel.give(1, 1, 100), INVALID);
        same("2: repetitions without a period", wheel.give(1, 0, 1), INVALID);
        same("2: least", wheel.give(Integer.MIN_VALUE, Integer.MIN_VALUE, Integer.MIN_VALUE), INVALID);
        same("2: greatest", wheel.give(Integer.MAX_VALUE, 1, 1), INVALID);
        same("2: nothing is recorded", wheel.count(12), 0);
        same("2: first", wheel.give(1, 0, 0), 0);
        same("2: second", wheel.give(511, 511, 99), 1);
        same("2: a period without repetitions", wheel.give(8, 3, 0), 2);
        same("2: an action", wheel.count(12), 3);
        same("2: due", wheel.promise(1, DUE), 511);
        wheel.pass(1);
        same("2: due from the present tick on", wheel.give(511, 0, 0), 3);
        same("2: due", wheel.promise(3, DUE), 512);
        same("2: behind those that stand there", wheel.give(510, 0, 0), 4);
        same("2: its place", wheel.promise(4, PLACE), 1);
        for (int promise = 5; promise < 40; promise++) {
            same("2: number", wheel.give(1, 0, 0), promise);
        }
        same("2: the forty-first", wheel.give(1, 0, 0), FULL);
        same("2: wrong before full", wheel.give(0, 0, 0), INVALID);
        same("2: given", wheel.count(1), 40);
    }

    private static void breakOff() {
        Counted wheel = new Counted();
        same("3: none given", wheel.breakOff(0), INVALID);
        wheel.give(1, 0, 0);
        wheel.give(9, 0, 0);
        wheel.give(1, 0, 0);
        same("3: -1", wheel.breakOff(-1), INVALID);
        same("3: not given", wheel.breakOff(3), INVALID);
        same("3: waiting", wheel.breakOff(1), 1);
        same("3: stays", wheel.promise(1, SLOT), 1);
        same("3: stays", wheel.promise(1, RING), 1);
        same("3: state", wheel.promise(1, STATE), 3);
        same("3: an action", wheel.count(12), 4);
        same("3: again", wheel.breakOff(1), ILLEGAL);
        same("3: an error is no action", wheel.count(12), 4);
        wheel.set(0, 1);
        wheel.pass(1);
        same("3: done", wheel.breakOff(0), ILLEGAL);
        same("3: ready", wheel.breakOff(2), 2);
        same("3: stays in the queue", wheel.stands(3, 0, 0), 2);
        wheel.sweep();
        same("3: swept", wheel.breakOff(1), ILLEGAL);
    }

    private static void move() {
        Counted wheel = new Counted();
        same("4: none given", wheel.move(0, 1), INVALID);
        wheel.give(3, 0, 0);
        wheel.give(3, 0, 0);
        wheel.give(3, 0, 0);
        wheel.give(3, 0, 0);
        same("4: delay 0", wheel.move(0, 0), INVALID);
        same("4: delay 512", wheel.move(0, 512), INVALID);
        same("4: promise -1", wheel.move(-1, 1), INVALID);
        same("4: not given", wheel.move(4, 1), INVALID);
        same("4: no action", wheel.count(12), 4);
        same("4: the due tick before", wheel.move(1, 3), 3);
        same("4: an action", wheel.count(12), 5);
        same("4: goes behind", wheel.promise(1, PLACE), 3);
        same("4: those behind step up", wheel.promise(2, PLACE), 1);
        same("4: those behind step up", wheel.stands(0, 3, 2), 3);
        same("4: to ring 2", wheel.move(3, 511), 3);
        same("4: ring", wheel.promise(3, RING), 2);
        same("4: slot", wheel.promise(3, SLOT), 7);
        same("4: the last one of a slot leaves", wheel.move(1, 8), 3);
        same("4: two are left", wheel.slot(0, 3, 0), 2);
        same("4: then one joins behind these", wheel.move(1, 3), 8);
        same("4: place", wheel.promise(1, PLACE), 2);
        same("4: the old slot is empty", wheel.slot(1, 1, 0), 0);
        wheel.breakOff(3);
        same("4: broken", wheel.move(3, 1), ILLEGAL);
        same("4: range before state", wheel.move(3, 0), INVALID);
        wheel.set(0, 1);
        wheel.pass(3);
        same("4: done", wheel.move(0, 1), ILLEGAL);
        same("4: ready", wheel.move(2, 1), ILLEGAL);
        same("4: from the present tick on", wheel.give(20, 0, 0), 4);
        same("4: old due", wheel.move(4, 5), 23);
        same("4: new due", wheel.promise(4, DUE), 8);
        same("4: ring by distance, not by the tick", wheel.promise(4, RING), 0);
        same("4: slot left over by 8", wheel.promise(4, SLOT), 0);
    }

    private static void rings() {
        Counted wheel = new Counted();
        int[] delays = {1, 7, 8, 15, 16, 63, 64, 127, 128, 511};
        int[] rings = {0, 0, 1, 1, 1, 1, 2, 2, 2, 2};
        int[] slots = {1, 7, 1, 1, 2, 7, 1, 1, 2, 7};
        for (int at = 0; at < delays.length; at++) {
            wheel.give(delays[at], 0, 0);
            same("rings: ring of delay " + delays[at], wheel.promise(at, RING), rings[at]);
            same("rings: slot of delay " + delays[at], wheel.promise(at, SLOT), slots[at]);
        }
        Counted later = new Counted();
        later.pass(77);
        int[] laterRings = {0, 0, 1, 1, 1, 1, 2, 2, 2, 2};
        int[] laterSlots = {6, 4, 2, 3, 3, 1, 2, 3, 3, 1};
        for (int at = 0; at < delays.length; at++) {
            later.give(delays[at], 0, 0);
            same("rings: ring at 77 of " + delays[at], later.promise(at, RING), laterRings[at]);
            same("rings: slot at 77 of " + delays[at], later.promise(at, SLOT), laterSlots[at]);
        }
    }

    private static void tickOrder() {
        Counted wheel = new Counted();
        wheel.set(0, 20);
        wheel.give(64, 0, 0);
        wheel.pass(1);
        wheel.give(63, 0, 0);
        wheel.pass(62);
        wheel.give(1, 0, 0);
        wheel.give(200, 0, 0);
        same("5: no fall yet", wheel.count(7), 0);
        same("5: called", wheel.pass(1), 3);
        same("5: ring 0 was there first", wheel.call(2, 0), 2);
        same("5: ring 2 falls before ring 1", wheel.call(1, 0), 0);
        same("5: ring 1 falls last", wheel.call(0, 0), 1);
        same("5: falls", wheel.count(7), 2);
        same("5: the due tick", wheel.promise(3, DUE), 263);
        wheel.pass(191);
        same("5: still in ring 2", wheel.promise(3, RING), 2);
        wheel.pass(1);
        same("5: fell to ring 0, as the distance is 7", wheel.promise(3, RING), 0);
        same("5: one fall more", wheel.count(7), 3);
        wheel.give(100, 0, 0);
        same("5: ring 2", wheel.promise(4, RING), 2);
        wheel.pass(64);
        same("5: fell to ring 1, as the distance is 36", wheel.promise(4, RING), 1);
        same("5: slot", wheel.promise(4, SLOT), 4);
        same("5: fall", wheel.count(7), 4);
        wheel.pass(32);
        same("5: fell to ring 0", wheel.promise(4, RING), 0);
        same("5: fall", wheel.count(7), 5);
        same("5: at its tick", wheel.pass(4), 1);
        same("5: not late", wheel.count(6), 0);
        brokenFall();
    }

    private static void brokenFall() {
        Counted wheel = new Counted();
        wheel.give(70, 0, 0);
        wheel.give(20, 0, 0);
        wheel.give(5, 0, 0);
        wheel.give(70, 0, 0);
        wheel.breakOff(0);
        wheel.breakOff(1);
        wheel.breakOff(2);
        wheel.pass(4);
        same("5: broken ones stay", wheel.count(4), 3);
        wheel.pass(1);
        same("5: swept when ring 0 is left", wheel.promise(2, STATE), 4);
        wheel.pass(10);
        same("5: stays in ring 1", wheel.promise(1, STATE), 3);
        wheel.pass(1);
        same("5: swept when ring 1 falls", wheel.promise(1, STATE), 4);
        wheel.pass(47);
        same("5: stays in ring 2", wheel.promise(0, STATE), 3);
        wheel.pass(1);
        same("5: swept when ring 2 falls", wheel.promise(0, STATE), 4);
        same("5: swept ones are no falls", wheel.count(7), 1);
        same("5: swept", wheel.count(8), 3);
        same("5: none broken stands", wheel.count(4), 0);
        same("5: no calls", wheel.count(5), 0);
    }

    private static void queueAndRoom() {
        Counted wheel = new Counted();
        for (int promise = 0; promise < 7; promise++) {
            wheel.give(2, 0, 0);
        }
        same("5: three are called", wheel.pass(2), 3);
        same("5: none is late", wheel.count(6), 0);
        same("5: the front of the queue", wheel.stands(3, 0, 0), 3);
        wheel.breakOff(3);
        wheel.breakOff(5);
        wheel.give(1, 0, 0);
        wheel.set(0, 1);
        same("5: the room bounds the calls, not the swept ones", wheel.pass(1), 1);
        same("5: swept at the front", wheel.promise(3, STATE), 4);
        same("5: called", wheel.call(0, 0), 4);
        same("5: a broken one stays behind", wheel.promise(5, STATE), 3);
        same("5: at the front now", wheel.promise(5, PLACE), 0);
        same("5: who arrives goes to the end", wheel.promise(7, PLACE), 2);
        same("5: late", wheel.count(6), 1);
        same("5: late by", wheel.promise(4, LATENESS), 1);
        same("5: longest queue", wheel.count(10), 4);
        wheel.set(0, 2);
        same("5: two are called", wheel.pass(1), 2);
        same("5: late by", wheel.promise(6, LATENESS), 2);
        same("5: late by", wheel.promise(7, LATENESS), 1);
        same("5: late calls", wheel.count(6), 3);
        same("5: the queue is empty", wheel.stands(3, 0, 0), NONE);
        lastOfQueueBroken();
    }

    private static void lastOfQueueBroken() {
        Counted wheel = new Counted();
        wheel.set(0, 1);
        wheel.give(1, 0, 0);
        wheel.give(1, 0, 0);
        wheel.give(1, 0, 0);
        wheel.pass(1);
        wheel.breakOff(2);
        same("5: one is called", wheel.pass(1), 1);
        same("5: the broken one behind it stays", wheel.count(4), 1);
        same("5: in the queue", wheel.slot(0, 1, 0), 0);
        same("5: in the queue", wheel.stands(3, 0, 0), 2);
        same("5: a queue of broken ones alone", wheel.pass(1), 0);
        same("5: is left, too", wheel.promise(2, STATE), 4);
    }

    private static void repetitions() {
        Counted wheel = new Counted();
        wheel.give(2, 5, 2);
        same("5: first call", wheel.pass(2), 1);
        same("5: waits again", wheel.promise(0, STATE), 0);
        same("5: due again", wheel.promise(0, DUE), 7);
        same("5: one less is left", wheel.promise(0, LEFT), 1);
        same("5: second and third call", wheel.pass(10), 2);
        same("5: done", wheel.promise(0, STATE), 2);
        same("5: the due tick stays", wheel.promise(0, DUE), 12);
        same("5: no repetition is left", wheel.promise(0, LEFT), 0);
        same("5: stands nowhere", wheel.promise(0, RING), NONE);
        latePeriods(0, 100, 101, 0);
        latePeriods(0, 7, 8, 0);
        latePeriods(0, 6, 13, 1);
        latePeriods(0, 5, 11, 1);
        latePeriods(0, 4, 9, 1);
        latePeriods(0, 2, 9, 3);
        latePeriods(0, 1, 8, 6);
        latePeriods(1, 100, 107, 0);
        latePeriods(1, 6, 13, 0);
        latePeriods(1, 2, 9, 0);
        latePeriods(1, 1, 8, 0);
        periodAlone();
        longPeriod();
    }

    /** By the room 1 the last of seven that are due at 1 is called at 7. */
    private static void latePeriods(int drift, int period, int dueAgain, int passedOver) {
        String by = "5: by the drift " + drift + " and the period " + period + ": ";
        Counted wheel = new Counted();
        wheel.set(0, 1);
        wheel.set(2, drift);
        for (int promise = 0; promise < 6; promise++) {
            wheel.give(1, 0, 0);
        }
        wheel.give(1, period, 2);
        wheel.pass(7);
        same(by + "late by", wheel.promise(6, LATENESS), 6);
        same(by + "late calls", wheel.count(6), 6);
        same(by + "due again", wheel.promise(6, DUE), dueAgain);
        same(by + "passed over", wheel.count(9), passedOver);
        same(by + "those passed over are not taken", wheel.promise(6, LEFT), 1);
        same(by + "called again then", wheel.pass(dueAgain - 7), 1);
        same(by + "called twice", wheel.promise(6, CALLED), 2);
        same(by + "on time again", wheel.promise(6, LATENESS), 6);
        same(by + "nothing more is passed over", wheel.count(9), passedOver);
    }

    private static void periodAlone() {
        Counted wheel = new Counted();
        wheel.give(1, 4, 0);
        same("5: a period without repetitions", wheel.pass(20), 1);
        same("5: is done", wheel.promise(0, STATE), 2);
        same("5: keeps its period", wheel.promise(0, PERIOD), 4);
    }

    private static void longPeriod() {
        Counted wheel = new Counted();
        wheel.give(1, 511, 1);
        wheel.pass(1);
        same("5: put by its distance", wheel.promise(0, RING), 2);
        same("5: 512 over 64 over 8", wheel.promise(0, SLOT), 0);
        same("5: not before", wheel.pass(510), 0);
        same("5: at 512", wheel.pass(1), 1);
        same("5: done", wheel.promise(0, STATE), 2);
    }

    private static void passEdges() {
        Counted wheel = new Counted();
        same("5: 0 ticks", wheel.pass(0), INVALID);
        same("5: 601 ticks", wheel.pass(601), INVALID);
        same("5: -1", wheel.pass(-1), INVALID);
        same("5: greatest", wheel.pass(Integer.MAX_VALUE), INVALID);
        same("5: no action", wheel.count(12), 0);
        same("5: 600 ticks", wheel.pass(600), 0);
        same("5: an action", wheel.count(12), 1);
        wheel.passTo(19999);
        same("5: above 20000", wheel.pass(2), FULL);
        same("5: range first", wheel.pass(601), INVALID);
        same("5: stays", wheel.count(0), 19999);
        same("5: to 20000", wheel.pass(1), 0);
        same("5: present", wheel.count(0), 20000);
        same("5: above", wheel.pass(1), FULL);
        same("5: give at the end", wheel.give(511, 0, 0), 0);
        same("5: due above 20000", wheel.promise(0, DUE), 20511);
        same("5: when above 20000", wheel.when(0), 20511);
        same("5: would above 20000", wheel.would(600, 0), 1);
        same("5: leastRoom above 20000", wheel.leastRoom(200), 1);
    }

    private static void sweepAndBound() {
        Counted wheel = new Counted();
        same("6: nothing to sweep", wheel.sweep(), 0);
        same("6: an action all the same", wheel.count(12), 1);
        wheel.give(3, 0, 0);
        wheel.give(3, 0, 0);
        wheel.give(3, 0, 0);
        wheel.give(100, 0, 0);
        wheel.give(1, 0, 0);
        wheel.give(1, 0, 0);
        wheel.set(0, 1);
        wheel.pass(1);
        wheel.breakOff(1);
        wheel.breakOff(3);
        wheel.breakOff(5);
        same("6: in slots and in the queue", wheel.sweep(), 3);
        same("6: the slot closes up", wheel.promise(2, PLACE), 1);
        same("6: the slot closes up", wheel.slot(0, 3, 0), 2);
        same("6: the queue is empty", wheel.stands(3, 0, 0), NONE);
        same("6: swept", wheel.promise(3, STATE), 4);
        same("6: stands nowhere", wheel.promise(3, PLACE), NONE);
        same("6: count", wheel.count(8), 3);
        same("6: none stands", wheel.count(4), 0);
        same("6: none is swept twice", wheel.sweep(), 0);
        bound();
    }

    private static void bound() {
        Counted wheel = new Counted();
        for (int promise = 0; promise < 7; promise++) {
            wheel.give(300, 0, 0);
        }
        for (int promise = 0; promise < 5; promise++) {
            same("5: broken", wheel.breakOff(promise), promise + 1);
        }
        wheel.pass(1);
        same("5: as many as the bound stay", wheel.count(4), 5);
        same("5: broken", wheel.breakOff(5), 6);
        same("5: swept in a tick, not at once", wheel.count(8), 0);
        wheel.pass(1);
        same("5: more than the bound are swept, all of them", wheel.count(8), 6);
        same("5: none stands", wheel.count(4), 0);
        same("5: the others stay", wheel.stands(2, 4, 0), 6);
        Counted queue = new Counted();
        queue.set(0, 1);
        queue.set(1, 1);
        for (int promise = 0; promise < 5; promise++) {
            queue.give(1, 0, 0);
        }
        queue.give(90, 0, 0);
        queue.pass(1);
        queue.breakOff(2);
        queue.breakOff(5);
        queue.pass(1);
        same("5: the end of the tick sweeps the queue, too", queue.count(8), 2);
        same("5: and the queue closes up", queue.stands(3, 0, 0), 3);
        same("5: the longest queue is that after the sweep", queue.count(10), 4);
        queueIsMeasuredAfterTheSweep();
    }

    private static void queueIsMeasuredAfterTheSweep() {
        Counted wheel = new Counted();
        wheel.set(0, 1);
        wheel.set(1, 0);
        wheel.give(1, 0, 0);
        wheel.give(1, 0, 0);
        wheel.give(1, 0, 0);
        wheel.pass(1);
        same("15: two stay", wheel.count(10), 2);
        wheel.give(1, 0, 0);
        wheel.give(1, 0, 0);
        wheel.breakOff(2);
        wheel.pass(1);
        same("15: the swept one is not in the queue at the end", wheel.count(10), 2);
    }

    private static void set() {
        Counted wheel = new Counted();
        same("7: what -1", wheel.set(-1, 1), INVALID);
        same("7: what 3", wheel.set(3, 1), INVALID);
        same("7: room 0", wheel.set(0, 0), INVALID);
        same("7: room 21", wheel.set(0, 21), INVALID);
        same("7: bound -1", wheel.set(1, -1), INVALID);
        same("7: bound 41", wheel.set(1, 41), INVALID);
        same("7: drift -1", wheel.set(2, -1), INVALID);
        same("7: drift 2", wheel.set(2, 2), INVALID);
        same("7: no action", wheel.count(12), 0);
        same("7: room 20", wheel.set(0, 20), 3);
        same("7: room 1", wheel.set(0, 1), 20);
        same("7: bound 40", wheel.set(1, 40), 5);
        same("7: bound 0", wheel.set(1, 0), 40);
        same("7: drift 1", wheel.set(2, 1), 0);
        same("7: an action", wheel.count(12), 5);
        same("7: drift 0", wheel.set(2, 0), 1);
        same("7: room", wheel.count(14), 1);
        same("7: bound", wheel.count(15), 0);
        same("7: drift", wheel.count(16), 0);
    }

    private static void take() {
        Counted wheel = new Counted();
        same("8: slot -1", wheel.take(-1), INVALID);
        same("8: slot 2", wheel.take(2), INVALID);
        same("8: no action", wheel.count(12), 0);
        wheel.pass(5);
        same("8: the present tick", wheel.take(1), 5);
        same("8: an action", wheel.count(12), 2);
        same("8: one is taken", wheel.count(11), 1);
        same("8: the other is empty", wheel.restore(0), ILLEGAL);
        wheel.pass(4);
        same("8: in place of one that is there", wheel.take(1), 9);
        same("8: still one", wheel.count(11), 1);
        same("8: the other slot", wheel.take(0), 9);
        same("8: two", wheel.count(11), 2);
        wheel.pass(1);
        same("8: the later one is there", wheel.restore(1), 9);
        same("8: undo brings the older one back", wheel.undo(), 4);
        wheel.undo();
        same("8: back", wheel.count(0), 9);
        wheel.undo();
        same("8: slot 0 is empty again", wheel.count(11), 1);
        wheel.undo();
        same("8: and slot 1 holds tick 5 again", wheel.restore(1), 5);
    }

    private static void restore() {
        Counted wheel = new Counted();
        same("9: slot -1", wheel.restore(-1), INVALID);
        same("9: slot 2", wheel.restore(2), INVALID);
        same("9: empty", wheel.restore(1), ILLEGAL);
        Story taken = RESTORABLE.then(made -> made.take(0));
        Story restored = taken.then(CHANGES).then(made -> made.restore(0));
        wheel = taken.then(CHANGES).told();
        same("9: the present tick then", wheel.restore(0), 2);
        asBefore("9: as it was", RESTORABLE, restored);
        same("9: the text stays", wheel.count(13), 3);
        same("9: the failure stays", wheel.failure(0), 1);
        same("9: the history stays and grows", wheel.count(12), 5);
        same("9: the snapshot stays", wheel.count(11), 1);
        wheel.pass(9);
        same("9: again", wheel.restore(0), 2);
        asBefore("9: as it was", RESTORABLE, restored.then(made -> made.pass(9)).then(made -> made.restore(0)));
        wheel.clearText();
        same("9: undo", wheel.undo(), 4);
        same("9: the tick before restoring", wheel.count(0), 11);
    }

    private static void asBefore(String what, Story before, Story after) {
        String difference = Looks.difference(Looks.atTheWheel(before), Looks.atTheWheel(after));
        Check.holds(what + " " + difference, difference.isEmpty());
    }

    private static void nothingChanges(String what, Story before, Story.Call call) {
        String difference = Looks.difference(Looks.atAll(before), Looks.atAll(before.then(call::of)));
        Check.holds(what + " " + difference, difference.isEmpty());
    }

    private static void undo() {
        Counted wheel = new Counted();
        same("10: empty", wheel.undo(), ILLEGAL);
        for (int action = 0; action < 7; action++) {
            wheel.give(10 + action, 0, 0);
        }
        same("10: at most five", wheel.count(12), 5);
        for (int left = 4; left >= 0; left--) {
            same("10: left", wheel.undo(), left);
            same("10: given", wheel.count(1), left + 2);
        }
        same("10: the oldest ones were dropped", wheel.undo(), ILLEGAL);
        same("10: no such promise any more", wheel.promise(2, STATE), INVALID);
        same("10: the number is free again", wheel.give(3, 0, 0), 2);
        wheel.pass(9);
        same("10: done", wheel.promise(2, STATE), 2);
        same("10: one action back", wheel.undo(), 1);
        same("10: waiting", wheel.promise(2, STATE), 0);
        same("10: undo is no action", wheel.count(12), 1);
        same("10: an error records nothing", wheel.pass(0), INVALID);
        same("10: still one", wheel.count(12), 1);
        wheel.write("pass 3;!");
        same("10: a failed program records nothing", wheel.run(), -1007);
        same("10: still one", wheel.count(12), 1);
        same("10: undo", wheel.undo(), 0);
        same("10: the text stays", wheel.count(13), 8);
        same("10: the failure stays", wheel.failure(1), 7);
    }

    private static void undoOfEachAction() {
        Story before = wheel -> {
            wheel.set(0, 1);
            wheel.give(1, 3, 9);
            wheel.give(1, 3, 9);
            wheel.give(90, 0, 0);
            wheel.give(90, 0, 0);
            wheel.take(1);
            wheel.pass(1);
            wheel.breakOff(3);
        };
        for (int number = 0; number < 9; number++) {
            int action = number;
            Story acted = before.then(wheel -> act(wheel, action));
            Counted wheel = before.told();
            same("10: action " + action, act(wheel, action) >= 0 ? 1 : 0, 1);
            same("10: undo of action " + action, wheel.undo(), 4);
            same("10: the snapshots as before action " + action, wheel.count(11), 1);
            asBefore("10: as before action " + action, before, acted.then(Counted::undo));
            // The next action finds the history's rows in another order.
            before = before.then(made -> {
                made.sweep();
                made.undo();
                made.set(0, 1);
            });
        }
    }

    private static int act(Counted wheel, int action) {
        switch (action) {
            case 0:
                return wheel.give(9, 9, 9);
            case 1:
                return wheel.breakOff(2);
            case 2:
                return wheel.move(2, 5);
            case 3:
                return wheel.pass(50);
            case 4:
                return wheel.sweep();
            case 5:
                return wheel.set(1, 40);
            case 6:
                return wheel.take(0);
            case 7:
                return wheel.restore(1);
            default:
                wheel.write("pass 2;break 2;");
                return wheel.run();
        }
    }

    private static void append() {
        Counted wheel = new Counted();
        same("11: 0", wheel.append(0), INVALID);
        same("11: 256", wheel.append(256), INVALID);
        same("11: -1", wheel.append(-1), INVALID);
        same("11: 1", wheel.append(1), 1);
        same("11: 255", wheel.append(255), 2);
        same("11: no action", wheel.count(12), 0);
        for (int length = 3; length <= 120; length++) {
            same("11: length", wheel.append(' '), length);
        }
        same("11: full", wheel.append(' '), FULL);
        same("11: range first", wheel.append(0), INVALID);
        same("11: length", wheel.count(13), 120);
        same("11: the first character is read", wheel.run(), -1000);
    }

    private static void clearText() {
        Counted wheel = withText("pass 1");
        same("12: before", wheel.clearText(), 6);
        same("12: empty", wheel.count(13), 0);
        same("12: already empty", wheel.clearText(), 0);
        same("12: no action", wheel.count(12), 0);
        wheel.write("sweep;");
        same("12: nothing of the old text is left", wheel.run(), 1);
    }

    private static void run() {
        Counted wheel = withText("give 5 2 1;give 100 0 0;move 1 3;break 1;pass 5;sweep;");
        same("13: commands", wheel.run(), 6);
        same("13: the text becomes empty", wheel.count(13), 0);
        same("13: given", wheel.count(1), 2);
        same("13: called", wheel.count(5), 1);
        same("13: due", wheel.promise(0, DUE), 7);
        same("13: moved and broken", wheel.promise(1, DUE), 3);
        same("13: swept", wheel.promise(1, STATE), 4);
        same("13: without spaces", runs("pass1;give5 0 0;sweep;move0 9;"), 4);
        same("13: with many", runs("   pass   1  ;  sweep  ;   "), 2);
        same("13: spaces alone", runs("    "), 0);
        same("13: four digits", runs("give 1 1 99;pass 600;"), 2);
        same("13: nothing", runs(""), 0);
        Counted full = new Counted();
        for (int command = 0; command < 20; command++) {
            full.write("sweep;");
        }
        same("13: 120 characters", full.count(13), 120);
        same("13: twenty commands", full.run(), 20);
    }

    private static int runs(String text) {
        return withText(text).run();
    }

    private static void runFailures() {
        String[] texts = {
            ";", "pass 1;;", "pass;", "pass 1 2;", "pass 01;", "pass 00;", "pass 12345;", "pas 1;",
            "passs 1;", "PASS 1;", "pass -1;", "give 1 0;", "pass 1", "pass 1 ", "pass", "give 1 ",
            "sweep 1;", "sweep sweep;", "1;", "pass 1;x", "pass\t1;", "pass x;", "move 1;",
            "passz 1;", "bass 1;", "xive 1 0 0;", "sweepzz;", "{sweep;", "`sweep;", "pass/1;", "pass:1;",
            "break;", "pass 1.", "!", "give 1 0 0 0;", "pass 1;swee", "   x", "breakoff 0;"};
        int[] places = {
            0, 7, 4, 7, 5, 5, 5, 0,
            0, 0, 5, 8, 6, 7, 4, 7,
            6, 6, 0, 7, 4, 5, 6,
            0, 0, 0, 0, 0, 0, 4, 4,
            5, 6, 0, 11, 7, 3, 0};
        for (int at = 0; at < texts.length; at++) {
            Counted wheel = withText(texts[at]);
            same("13: run of " + texts[at], wheel.run(), -1000 - places[at]);
            same("13: kind of " + texts[at], wheel.failure(0), 1);
            same("13: place of " + texts[at], wheel.failure(1), places[at]);
            same("13: code of " + texts[at], wheel.failure(3), NONE);
            same("13: the text is kept", wheel.count(13), texts[at].length());
            same("13: nothing stays", wheel.count(0), 0);
            same("13: no action", wheel.count(12), 0);
        }
        wrongCalls();
    }

    private static void wrongCalls() {
        String[] texts = {
            "pass 0;", "sweep; break 0;", "pass 1;pass 9999;!", " give 0 0 0 ;",
            "give 1 0 0;pass 1; move 0 3;", "give 1 0 1;", "pass 601;x"};
        int[] places = {0, 7, 7, 1, 19, 0, 0};
        int[] before = {0, 1, 1, 0, 2, 0, 0};
        int[] codes = {INVALID, INVALID, INVALID, INVALID, ILLEGAL, INVALID, INVALID};
        for (int at = 0; at < texts.length; at++) {
            Counted wheel = withText(texts[at]);
            same("13: run of " + texts[at], wheel.run(), -1000 - places[at]);
            same("14: kind of " + texts[at], wheel.failure(0), 2);
            same("14: place of " + texts[at], wheel.failure(1), places[at]);
            same("14: commands before in " + texts[at], wheel.failure(2), before[at]);
            same("14: code of " + texts[at], wheel.failure(3), codes[at]);
            same("13: nothing stays", wheel.count(0), 0);
            same("13: nothing stays", wheel.count(1), 0);
        }
        Counted late = new Counted();
        late.passTo(19950);
        late.write("pass 50;pass 1;");
        same("13: above 20000", late.run(), -1008);
        same("14: code", late.failure(3), FULL);
        same("13: nothing stays", late.count(0), 19950);
    }

    private static void runIsOneAction() {
        Counted wheel = new Counted();
        wheel.pass(1);
        wheel.write("pass 1;pass 1;pass 1;pass 1;pass 1;pass 1;");
        same("13: six commands", wheel.run(), 6);
        same("13: one action", wheel.count(12), 2);
        same("13: nothing to run", wheel.run(), 0);
        same("13: an action, too", wheel.count(12), 3);
        same("13: undo", wheel.undo(), 2);
        same("13: nothing had changed", wheel.count(0), 7);
        same("13: undo", wheel.undo(), 1);
        same("13: all commands are undone", wheel.count(0), 1);
        same("13: the text does not come back", wheel.count(13), 0);
    }

    private static void failure() {
        Counted wheel = withText("pass 1;pass 2;x");
        same("14: no failure yet", wheel.failure(3), NONE);
        same("14: -1", wheel.failure(-1), INVALID);
        same("14: 4", wheel.failure(4), INVALID);
        wheel.run();
        same("14: -1", wheel.failure(-1), INVALID);
        same("14: 4", wheel.failure(4), INVALID);
        same("14: kind", wheel.failure(0), 1);
        same("14: place", wheel.failure(1), 14);
        same("14: commands before", wheel.failure(2), 2);
        same("14: no code", wheel.failure(3), NONE);
        wheel.clearText();
        wheel.write("sweep;");
        wheel.run();
        same("14: stays when a later one does not fail", wheel.failure(1), 14);
        wheel.undo();
        same("14: stays when it is undone", wheel.failure(1), 14);
        wheel.write("sweep;break 7;");
        wheel.run();
        same("14: the latest", wheel.failure(0), 2);
        same("14: the latest", wheel.failure(1), 6);
        same("14: the latest", wheel.failure(2), 1);
        same("14: the latest", wheel.failure(3), INVALID);
    }

    private static void count() {
        Counted wheel = new Counted();
        same("15: -1", wheel.count(-1), INVALID);
        same("15: 17", wheel.count(17), INVALID);
        wheel.set(0, 1);
        wheel.give(1, 1, 9);
        wheel.give(1, 1, 9);
        wheel.give(1, 0, 0);
        wheel.give(9, 0, 0);
        wheel.give(90, 0, 0);
        wheel.pass(1);
        wheel.breakOff(4);
        wheel.breakOff(2);
        wheel.take(1);
        wheel.write("abc");
        int[] due = {1, 5, 2, 1, 2, 1, 0, 0, 0, 0, 2, 1, 5, 3, 1, 5, 0};
        for (int what = 0; what < due.length; what++) {
            same("15: count(" + what + ")", wheel.count(what), due[what]);
        }
        wheel.pass(7);
        // By the room 1: tick 2 calls 1 (late), then 2 is swept, and 0 and 1 go on by turns.
        same("15: calls", wheel.count(5), 8);
        same("15: falls", wheel.count(7), 1);
        same("15: swept", wheel.count(8), 1);
        same("15: late calls", wheel.count(6), 7);
    }

    private static void promise() {
        Counted wheel = new Counted();
        same("16: none given", wheel.promise(0, 0), INVALID);
        wheel.set(0, 1);
        wheel.give(1, 0, 0);
        wheel.give(1, 30, 7);
        wheel.give(1, 0, 0);
        wheel.give(75, 11, 3);
        wheel.give(75, 12, 4);
        same("16: promise -1", wheel.promise(-1, 0), INVALID);
        same("16: promise 5", wheel.promise(5, 0), INVALID);
        same("16: what -1", wheel.promise(0, -1), INVALID);
        same("16: what 9", wheel.promise(0, 9), INVALID);
        tells("16: waiting", wheel, 4, new int[] {0, 75, 12, 4, 2, 1, 1, 0, 0});
        wheel.pass(1);
        tells("16: done", wheel, 0, new int[] {2, 1, 0, 0, NONE, NONE, NONE, 1, 0});
        tells("16: ready", wheel, 1, new int[] {1, 1, 30, 7, NONE, NONE, 0, 0, 0});
        tells("16: ready", wheel, 2, new int[] {1, 1, 0, 0, NONE, NONE, 1, 0, 0});
        wheel.breakOff(2);
        tells("16: broken in the queue", wheel, 2, new int[] {3, 1, 0, 0, NONE, NONE, 1, 0, 0});
        wheel.breakOff(4);
        tells("16: broken in a slot", wheel, 4, new int[] {3, 75, 12, 4, 2, 1, 1, 0, 0});
        wheel.pass(1);
        tells("16: called late", wheel, 1, new int[] {0, 31, 30, 6, 1, 3, 0, 1, 1});
        wheel.sweep();
        tells("16: swept", wheel, 4, new int[] {4, 75, 12, 4, NONE, NONE, NONE, 0, 0});
    }

    private static void tells(String what, Counted wheel, int promise, int[] due) {
        for (int part = 0; part < due.length; part++) {
            same(what + " " + part, wheel.promise(promise, part), due[part]);
        }
    }

    private static void slot() {
        Counted wheel = new Counted();
        same("17: ring -1", wheel.slot(-1, 0, 0), INVALID);
        same("17: ring 3", wheel.slot(3, 0, 0), INVALID);
        same("17: slot -1", wheel.slot(0, -1, 0), INVALID);
        same("17: slot 8", wheel.slot(0, 8, 0), INVALID);
        same("17: what -1", wheel.slot(0, 0, -1), INVALID);
        same("17: what 3", wheel.slot(0, 0, 3), INVALID);
        same("17: empty", wheel.slot(1, 2, 2), NONE);
        wheel.give(22, 0, 0);
        wheel.give(18, 0, 0);
        wheel.give(16, 0, 0);
        wheel.give(20, 0, 0);
        same("17: how many", wheel.slot(1, 2, 0), 4);
        same("17: none broken", wheel.slot(1, 2, 1), 0);
        same("17: the smallest due tick", wheel.slot(1, 2, 2), 16);
        wheel.breakOff(2);
        same("17: how many", wheel.slot(1, 2, 0), 4);
        same("17: one is broken", wheel.slot(1, 2, 1), 1);
        same("17: of those that are not", wheel.slot(1, 2, 2), 18);
        same("17: another slot", wheel.slot(1, 3, 0), 0);
        same("17: another ring", wheel.slot(2, 2, 0), 0);
        wheel.breakOff(0);
        wheel.breakOff(1);
        wheel.breakOff(3);
        same("17: all are broken", wheel.slot(1, 2, 1), 4);
        same("17: none that is not", wheel.slot(1, 2, 2), NONE);
    }

    private static void stands() {
        Counted wheel = new Counted();
        wheel.give(10, 0, 0);
        wheel.give(10, 0, 0);
        wheel.give(1, 0, 0);
        wheel.give(1, 0, 0);
        wheel.set(0, 1);
        wheel.pass(1);
        same("18: ring -1", wheel.stands(-1, 0, 0), INVALID);
        same("18: ring 4", wheel.stands(4, 0, 0), INVALID);
        same("18: slot -1", wheel.stands(1, -1, 0), INVALID);
        same("18: slot 8", wheel.stands(1, 8, 0), INVALID);
        same("18: place -1", wheel.stands(1, 1, -1), INVALID);
        same("18: queue and slot 1", wheel.stands(3, 1, 0), INVALID);
        same("18: front", wheel.stands(1, 1, 0), 0);
        same("18: behind", wheel.stands(1, 1, 1), 1);
        same("18: not so many", wheel.stands(1, 1, 2), NONE);
        same("18: far behind", wheel.stands(1, 1, Integer.MAX_VALUE), NONE);
        same("18: queue", wheel.stands(3, 0, 0), 3);
        same("18: queue", wheel.stands(3, 0, 1), NONE);
        wheel.breakOff(0);
        same("18: broken ones, too", wheel.stands(1, 1, 0), 0);
    }

    private static void call() {
        Counted wheel = new Counted();
        same("19: none yet", wheel.call(0, 0), NONE);
        same("19: call -1", wheel.call(-1, 0), INVALID);
        same("19: call 12", wheel.call(12, 0), INVALID);
        same("19: what -1", wheel.call(0, -1), INVALID);
        same("19: what 3", wheel.call(0, 3), INVALID);
        wheel.set(0, 1);
        wheel.give(1, 4, 99);
        wheel.give(1, 4, 99);
        wheel.pass(2);
        same("19: the latest one", wheel.call(0, 0), 1);
        same("19: the due tick that it had", wheel.call(0, 1), 1);
        same("19: the tick of the call", wheel.call(0, 2), 2);
        same("19: before", wheel.call(1, 0), 0);
        same("19: not so many", wheel.call(2, 0), NONE);
        wheel.pass(21);
        same("19: twelve calls", wheel.count(5), 12);
        same("19: the oldest", wheel.call(11, 2), 1);
        wheel.pass(3);
        same("19: fourteen calls", wheel.count(5), 14);
        same("19: the oldest that is kept", wheel.call(11, 2), 5);
        same("19: the latest", wheel.call(0, 2), 26);
        same("19: its due tick", wheel.call(0, 1), 25);
        same("19: its promise", wheel.call(0, 0), 1);
    }

    private static void next() {
        Counted wheel = new Counted();
        same("20: way -1", wheel.next(-1, 0), INVALID);
        same("20: way 2", wheel.next(2, 0), INVALID);
        same("20: what -1", wheel.next(0, -1), INVALID);
        same("20: what 2", wheel.next(0, 2), INVALID);
        same("20: none", wheel.next(1, 1), NONE);
        wheel.give(500, 0, 0);
        nextIs("20: one in ring 2", wheel, 0, 500);
        wheel.pass(1);
        wheel.give(63, 0, 0);
        nextIs("20: in the present slot of ring 1, all around", wheel, 1, 64);
        wheel.give(40, 0, 0);
        nextIs("20: in a nearer one", wheel, 2, 41);
        wheel.give(7, 0, 0);
        wheel.give(7, 0, 0);
        nextIs("20: of several the smallest number", wheel, 3, 8);
        wheel.breakOff(3);
        nextIs("20: broken ones do not wait", wheel, 4, 8);
        wheel.breakOff(4);
        wheel.give(42, 0, 0);
        wheel.move(2, 42);
        nextIs("20: the number decides, not the place", wheel, 2, 43);
        wheel.set(0, 1);
        wheel.pass(42);
        nextIs("20: ready ones do not wait", wheel, 1, 64);
        Counted far = new Counted();
        far.pass(63);
        far.give(65, 0, 0);
        far.give(1, 0, 0);
        far.pass(1);
        far.give(64, 0, 0);
        far.give(63, 0, 0);
        nextIs("20: ring 1 before ring 2", far, 3, 127);
        far.move(3, 64);
        nextIs("20: all in ring 2", far, 0, 128);
    }

    private static void nextIs(String what, Counted wheel, int promise, int due) {
        for (int way = 0; way <= 1; way++) {
            same(what + ", way " + way, wheel.next(way, 0), promise);
            same(what + ", due, way " + way, wheel.next(way, 1), due);
        }
    }

    private static void when() {
        Counted wheel = new Counted();
        same("21: none given", wheel.when(0), INVALID);
        same("21: -1", wheel.when(-1), INVALID);
        wheel.set(0, 1);
        wheel.give(3, 0, 0);
        wheel.give(3, 0, 0);
        wheel.give(3, 5, 9);
        wheel.give(511, 0, 0);
        same("21: on time", wheel.when(0), 3);
        same("21: late", wheel.when(1), 4);
        same("21: later", wheel.when(2), 5);
        same("21: far", wheel.when(3), 511);
        nothingChanges("21: nothing changes", WAITING_IN_TURN, made -> made.when(5));
        same("21: nothing is recorded", wheel.count(12), 5);
        wheel.pass(3);
        same("21: done", wheel.when(0), ILLEGAL);
        same("21: ready", wheel.when(1), 4);
        wheel.breakOff(1);
        same("21: broken", wheel.when(1), ILLEGAL);
        same("21: who was behind it", wheel.when(2), 4);
        wheel.pass(1);
        same("21: the next repetition", wheel.when(2), 8);
        farBehind();
    }

    private static void farBehind() {
        Counted wheel = new Counted();
        wheel.set(0, 1);
        for (int promise = 0; promise < 39; promise++) {
            wheel.give(1, 1, 99);
        }
        wheel.give(511, 0, 0);
        same("21: behind 38 others that come again and again", wheel.when(39), 511 + 38);
        Counted all = new Counted();
        all.set(0, 1);
        for (int promise = 0; promise < 40; promise++) {
            all.give(511, 1, 99);
        }
        same("21: the last of forty", all.when(39), 550);
        same("21: the first of forty", all.when(0), 511);
    }

    private static void would() {
        Counted wheel = new Counted();
        same("22: none is ready", wheel.would(600, 2), 0);
        same("22: 0 ticks", wheel.would(0, 0), INVALID);
        same("22: 601 ticks", wheel.would(601, 0), INVALID);
        same("22: what -1", wheel.would(1, -1), INVALID);
        same("22: what 3", wheel.would(1, 3), INVALID);
        same("22: nothing", wheel.would(600, 0), 0);
        wheel.set(0, 2);
        for (int promise = 0; promise < 7; promise++) {
            wheel.give(2, 0, 0);
        }
        wheel.give(5, 0, 0);
        same("22: before they are due", wheel.would(1, 0), 0);
        same("22: at tick 2", wheel.would(2, 0), 2);
        same("22: not late", wheel.would(2, 1), 0);
        same("22: five are ready then", wheel.would(2, 2), 5);
        same("22: calls", wheel.would(600, 0), 8);
        same("22: late ones", wheel.would(600, 1), 5);
        same("22: most ready", wheel.would(600, 2), 5);
        nothingChanges("22: nothing changes", WAITING_IN_TURN, made -> made.would(600, 2));
        wheel.pass(2);
        same("22: from now on", wheel.would(1, 0), 2);
        same("22: late ones from now on", wheel.would(1, 1), 2);
        same("22: at the end of one of these ticks, not now", wheel.would(1, 2), 3);
        wheel.pass(1);
        same("22: late ones before do not count", wheel.would(1, 1), 2);
        same("22: late ones before do not count", wheel.would(600, 1), 3);
        same("22: calls before do not count", wheel.would(600, 0), 4);
        wheel.undo();
        wheel.breakOff(6);
        same("22: broken ones are not ready", wheel.would(1, 2), 2);
        same("22: nor called", wheel.would(9, 0), 5);
    }

    private static void leastRoom() {
        Counted wheel = new Counted();
        same("23: 0 ticks", wheel.leastRoom(0), INVALID);
        same("23: 201 ticks", wheel.leastRoom(201), INVALID);
        same("23: nothing to call", wheel.leastRoom(200), 1);
        for (int promise = 0; promise < 7; promise++) {
            wheel.give(3, 0, 0);
        }
        wheel.set(0, 2);
        same("23: before they are due", wheel.leastRoom(2), 1);
        same("23: those that are called at 3 are not late", wheel.leastRoom(3), 1);
        same("23: seven at once", wheel.leastRoom(4), 7);
        nothingChanges("23: nothing changes", WAITING_IN_TURN, made -> made.leastRoom(200));
        wheel.give(200, 0, 0);
        same("23: 200 ticks", wheel.leastRoom(200), 7);
        wheel.pass(3);
        same("23: some are late already", wheel.leastRoom(1), NONE);
        for (int promise = 2; promise < 7; promise++) {
            wheel.breakOff(promise);
        }
        same("23: broken ones are not called", wheel.leastRoom(1), 1);
        Counted twenty = new Counted();
        for (int promise = 0; promise < 20; promise++) {
            twenty.give(9, 0, 0);
        }
        same("23: twenty", twenty.leastRoom(200), 20);
        twenty.give(9, 0, 0);
        same("23: one more", twenty.leastRoom(200), NONE);
        same("23: before they are due", twenty.leastRoom(9), 1);
    }
}
