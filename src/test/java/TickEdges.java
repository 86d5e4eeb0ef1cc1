/** The five steps of a tick, repetitions and the diary: each sentence has a test of its own. */
final class TickEdges extends Edges {
    private static final String TICK = "A tick";

    private TickEdges() {
    }

    static void go() {
        presentTick();
        ring2Falls();
        ring1Falls();
        fallOneBehindAnother();
        fallByDistance();
        ring0Leaves();
        endOfTheQueue();
        room();
        sweptInTheQueue();
        stayInTheQueue();
        late();
        bound();
        oneLessIsLeft();
        driftZero();
        passedOver();
        driftOne();
        putIntoASlotAgain();
        done();
        diary();
    }

    private static void presentTick() {
        sentence(TICK, "The present tick becomes greater by 1.");
        Counted wheel = new Counted();
        wheel.pass(1);
        same("one tick", wheel.count(0), 1);
        wheel.pass(1);
        same("one more", wheel.count(0), 2);
        wheel.pass(600);
        same("many", wheel.count(0), 602);
        wheel.passTo(19999);
        wheel.pass(1);
        same("the last one", wheel.count(0), 20000);
    }

    private static void ring2Falls() {
        sentence(TICK, "If it is a multiple of 64, the slot of ring 2 "
                + "that is this tick divided by 64, left over by 8, falls;");
        ringFalls(2, 64);
        ringFallsAround(2, 64, 1);
        ringFallsAround(2, 64, 513);
        ringFallsAround(2, 64, 18945);
    }

    private static void ring1Falls() {
        sentence(TICK, "then, if it is a multiple of 8, the slot of ring 1 "
                + "that is this tick divided by 8, left over by 8, falls.");
        ringFalls(1, 8);
        ringFallsAround(1, 8, 1);
        ringFallsAround(1, 8, 65);
        ringFallsAround(1, 8, 19905);
        ring2FallsFirst();
    }

    /** The first and the last tick of slot 1, the first one of slot 2 and the last one of slot 7. */
    private static void ringFalls(int ring, int width) {
        Counted wheel = new Counted();
        wheel.give(width, 0, 0);
        wheel.give(2 * width - 1, 0, 0);
        wheel.give(2 * width, 0, 0);
        wheel.give(8 * width - 1, 0, 0);
        wheel.pass(width - 1);
        line("slot 1, one tick before", wheel, ring, 1, 0, 1);
        same("nothing has fallen", wheel.count(7), 0);
        wheel.pass(1);
        line("slot 1 at its tick", wheel, ring, 1);
        line("slot 2 does not fall with it", wheel, ring, 2, 2);
        line("nor does slot 7", wheel, ring, 7, 3);
        same("two have fallen", wheel.count(7), 2);
        wheel.pass(width - 1);
        line("slot 2, one tick before", wheel, ring, 2, 2);
        wheel.pass(1);
        line("slot 2 at its tick", wheel, ring, 2);
        wheel.passTo(7 * width - 1);
        line("slot 7, one tick before", wheel, ring, 7, 3);
        wheel.pass(1);
        line("slot 7 at its tick", wheel, ring, 7);
    }

    /** From one tick behind a whole round on, slot 0 is as far away as can be. */
    private static void ringFallsAround(int ring, int width, int start) {
        int delay = 8 * width - 1;
        Counted wheel = new Counted();
        wheel.passTo(start);
        wheel.give(delay, 0, 0);
        line("around, at first", wheel, ring, 0, 0);
        wheel.passTo(start + delay - 1);
        line("around, one tick before", wheel, ring, 0, 0);
        same("around, nothing has fallen", wheel.count(7), 0);
        same("around, called at its tick", wheel.pass(1), 1);
        same("around, one has fallen", wheel.count(7), 1);
        same("around, the tick of the call", wheel.call(0, 2), start + delay);
    }

    private static void ring2FallsFirst() {
        Counted wheel = new Counted();
        wheel.give(511, 0, 0);
        wheel.give(64, 0, 0);
        wheel.pass(1);
        wheel.move(0, 63);
        wheel.pass(62);
        line("in ring 1", wheel, 1, 0, 0);
        line("in ring 2", wheel, 2, 1, 1);
        same("both are due at 64", wheel.pass(1), 2);
        same("ring 2 falls first", wheel.call(1, 0), 1);
        same("then ring 1", wheel.call(0, 0), 0);
    }

    private static void fallOneBehindAnother() {
        sentence(TICK, "When a slot falls, all that stand there leave it, one behind another:");
        Counted wheel = new Counted();
        wheel.giveMany(3, 70);
        wheel.move(0, 70);
        wheel.giveMany(3, 13);
        wheel.move(4, 13);
        wheel.pass(8);
        line("ring 1 is left", wheel, 1, 1);
        line("as they stood there", wheel, 0, 5, 3, 5, 4);
        wheel.pass(56);
        line("ring 2 is left", wheel, 2, 1);
        line("as they stood in ring 2", wheel, 0, 6, 1, 2, 0);
        Counted full = new Counted();
        full.giveMany(40, 511);
        full.passTo(448);
        same("forty have left ring 2", full.slot(2, 7, 0), 0);
        same("forty are in ring 1", full.slot(1, 7, 0), 40);
        full.passTo(504);
        same("forty have left ring 1", full.slot(1, 7, 0), 0);
        same("forty are in ring 0", full.slot(0, 7, 0), 40);
        same("eighty falls", full.count(7), 80);
    }

    private static void fallByDistance() {
        sentence(TICK, "a broken one is swept, any other one is put into a slot by its distance now "
                + "(which counts as a fall).");
        Counted wheel = new Counted();
        int[] dues = {64, 71, 72, 127, 90, 64};
        for (int due : dues) {
            wheel.give(due, 0, 0);
        }
        wheel.breakOff(4);
        wheel.breakOff(5);
        wheel.pass(63);
        same("they stand until their slot falls", wheel.slot(2, 1, 1), 2);
        wheel.pass(1);
        tells("distance 0, called at once", wheel, 0, 2, 64, 0, 0, NONE, NONE, NONE, 1, 0);
        tells("distance 7", wheel, 1, 0, 71, 0, 0, 0, 7, 0);
        tells("distance 8", wheel, 2, 0, 72, 0, 0, 1, 1, 0);
        tells("distance 63", wheel, 3, 0, 127, 0, 0, 1, 7, 0);
        tells("broken", wheel, 4, 4, 90, 0, 0, NONE, NONE, NONE);
        tells("broken, at its tick", wheel, 5, 4, 64, 0, 0, NONE, NONE, NONE);
        same("falls", wheel.count(7), 4);
        same("swept", wheel.count(8), 2);
        same("none broken stands", wheel.count(4), 0);
        fallFromRing1();
    }

    private static void fallFromRing1() {
        Counted wheel = new Counted();
        wheel.give(8, 0, 0);
        wheel.give(15, 0, 0);
        wheel.give(12, 0, 0);
        wheel.breakOff(2);
        wheel.pass(7);
        line("they stand until their slot falls", wheel, 1, 1, 0, 1, 2);
        wheel.pass(1);
        tells("from ring 1, distance 0", wheel, 0, 2, 8, 0, 0, NONE, NONE, NONE, 1, 0);
        tells("from ring 1, distance 7", wheel, 1, 0, 15, 0, 0, 0, 7, 0);
        tells("from ring 1, broken", wheel, 2, 4, 12, 0, 0, NONE, NONE, NONE);
        same("falls", wheel.count(7), 2);
        same("swept", wheel.count(8), 1);
    }

    private static void ring0Leaves() {
        sentence(TICK, "All that stand in the slot of ring 0 that is this tick left over by 8 leave it, "
                + "one behind another:");
        Counted wheel = new Counted();
        wheel.giveMany(3, 3);
        wheel.give(4, 0, 0);
        wheel.move(0, 3);
        wheel.pass(2);
        line("at 2", wheel, 0, 3, 1, 2, 0);
        wheel.pass(1);
        line("at 3", wheel, 0, 3);
        line("the next one stands", wheel, 0, 4, 3);
        same("the front one", wheel.call(2, 0), 1);
        same("the one behind it", wheel.call(1, 0), 2);
        same("the last one", wheel.call(0, 0), 0);
        for (int start : new int[] {1, 5, 65, 19993}) {
            Counted around = new Counted();
            around.passTo(start);
            int delay = 8 - start % 8;
            around.give(delay, 0, 0);
            line("around, slot 0", around, 0, 0, 0);
            for (int tick = 1; tick < delay; tick++) {
                same("around, before its tick", around.pass(1), 0);
            }
            same("around, at its tick", around.pass(1), 1);
        }
    }

    private static void endOfTheQueue() {
        sentence(TICK, "a broken one is swept, any other one goes to the end of the queue, and is ready.");
        Counted wheel = new Counted();
        wheel.set(0, 1);
        wheel.giveMany(3, 1);
        wheel.giveMany(2, 2);
        wheel.breakOff(3);
        wheel.pass(1);
        line("in the queue", wheel, 3, 0, 1, 2);
        same("ready", wheel.promise(2, STATE), 1);
        same("broken, not yet at its tick", wheel.promise(3, STATE), 3);
        wheel.pass(1);
        line("at the end", wheel, 3, 0, 2, 4);
        same("ready", wheel.promise(4, STATE), 1);
        tells("broken, it never stood in the queue", wheel, 3, 4, 2, 0, 0, NONE, NONE, NONE, 0);
        same("swept", wheel.count(8), 1);
        Counted full = new Counted();
        full.set(0, 1);
        full.giveMany(40, 1);
        full.pass(1);
        same("the last of thirty-nine", full.stands(3, 0, 38), 39);
        same("nobody behind", full.stands(3, 0, 39), NONE);
    }

    private static void room() {
        sentence(TICK, "Those in the queue leave it from its front on, until it is empty or as many "
                + "as the room (1 to 20; at first 3) have been called:");
        calledAtOnce(0, 0, 0);
        calledAtOnce(0, 1, 1);
        calledAtOnce(0, 2, 2);
        calledAtOnce(0, 3, 3);
        calledAtOnce(0, 4, 3);
        calledAtOnce(1, 1, 1);
        calledAtOnce(1, 2, 1);
        calledAtOnce(20, 19, 19);
        calledAtOnce(20, 20, 20);
        calledAtOnce(20, 21, 20);
        refused("room 0", BUSY, INVALID, wheel -> wheel.set(0, 0));
        refused("room 21", BUSY, INVALID, wheel -> wheel.set(0, 21));
    }

    /** The room 0 stands for the one at first. */
    private static void calledAtOnce(int room, int promises, int due) {
        String what = promises + " by the room " + room;
        Counted wheel = new Counted();
        if (room > 0) {
            wheel.set(0, room);
        }
        wheel.giveMany(promises, 1);
        same(what + " are called", wheel.pass(1), due);
        same(what + " are ready then", wheel.count(3), promises - due);
        for (int call = 0; call < Math.min(due, 12); call++) {
            same(what + ", from the front on", wheel.call(call, 0), due - 1 - call);
        }
        same(what + ", the front then", wheel.stands(3, 0, 0), due < promises ? due : NONE);
    }

    private static void sweptInTheQueue() {
        sentence(TICK, "a broken one is swept, any other one is called.");
        Counted wheel = new Counted();
        wheel.set(0, 1);
        wheel.giveMany(5, 1);
        wheel.pass(1);
        wheel.breakOff(1);
        wheel.breakOff(2);
        same("broken ones take no room", wheel.pass(1), 1);
        same("swept", wheel.promise(1, STATE), 4);
        same("swept, too", wheel.promise(2, STATE), 4);
        same("called", wheel.call(0, 0), 3);
        line("who stays", wheel, 3, 0, 4);
        same("two are swept", wheel.count(8), 2);
        wheel.breakOff(4);
        same("a queue of broken ones alone", wheel.pass(1), 0);
        line("is empty then", wheel, 3, 0);
        same("three are swept", wheel.count(8), 3);
        same("two calls in all", wheel.count(5), 2);
    }

    private static void stayInTheQueue() {
        sentence(TICK, "Those that are in it then stay, broken ones, too.");
        Counted wheel = new Counted();
        wheel.set(0, 1);
        wheel.giveMany(4, 1);
        wheel.pass(1);
        wheel.breakOff(2);
        same("the room is used up", wheel.pass(1), 1);
        line("the broken one stays at the front", wheel, 3, 0, 2, 3);
        same("it is broken, but standing", wheel.promise(2, STATE), 3);
        same("the one behind it is ready", wheel.promise(3, STATE), 1);
        same("nothing is swept", wheel.count(8), 0);
        Counted last = new Counted();
        last.set(0, 1);
        last.giveMany(3, 1);
        last.pass(1);
        last.breakOff(2);
        last.pass(1);
        line("a broken one alone stays, too", last, 3, 0, 2);
        same("it stands", last.count(4), 1);
    }

    private static void late() {
        sentence(TICK, "A call is late if the due tick is less than the present one.");
        Counted wheel = new Counted();
        wheel.set(0, 1);
        wheel.giveMany(3, 1);
        wheel.pass(1);
        same("equal is not late", wheel.count(6), 0);
        same("by no tick", wheel.promise(0, LATENESS), 0);
        wheel.pass(1);
        same("one tick less is late", wheel.count(6), 1);
        same("by one tick", wheel.promise(1, LATENESS), 1);
        wheel.pass(1);
        same("two ticks less", wheel.count(6), 2);
        same("by two ticks", wheel.promise(2, LATENESS), 2);
    }

    private static void bound() {
        sentence(TICK, "If more broken ones stand in slots and in the queue than the bound "
                + "(0 to 40; at first 5), all of them are swept.");
        Counted wheel = new Counted();
        wheel.giveMany(7, 300);
        breakFirst(wheel, 5);
        wheel.pass(1);
        same("five stand", wheel.count(4), 5);
        wheel.breakOff(5);
        same("six stand until a tick ends", wheel.count(4), 6);
        wheel.pass(1);
        same("six are swept", wheel.count(8), 6);
        line("the other one stands", wheel, 2, 4, 6);
        boundOf(0, 1, 1);
        boundOf(1, 1, 0);
        boundOf(1, 2, 2);
        boundOf(39, 39, 0);
        boundOf(39, 40, 40);
        boundOf(40, 40, 0);
        slotsAndQueueTogether();
        atTheEndOfTheTick();
        refused("bound -1", BUSY, INVALID, busy -> busy.set(1, -1));
        refused("bound 41", BUSY, INVALID, busy -> busy.set(1, 41));
    }

    private static void breakFirst(Counted wheel, int promises) {
        for (int promise = 0; promise < promises; promise++) {
            wheel.breakOff(promise);
        }
    }

    private static void boundOf(int bound, int broken, int swept) {
        String what = broken + " broken ones by the bound " + bound;
        Counted wheel = new Counted();
        wheel.set(1, bound);
        wheel.giveMany(40, 300);
        breakFirst(wheel, broken);
        wheel.pass(1);
        same(what + ", swept", wheel.count(8), swept);
        same(what + ", standing", wheel.count(4), broken - swept);
        same(what + ", in the slot", wheel.slot(2, 4, 0), 40 - swept);
    }

    private static void slotsAndQueueTogether() {
        Counted wheel = new Counted();
        wheel.set(0, 1);
        wheel.set(1, 1);
        wheel.giveMany(5, 1);
        wheel.give(90, 0, 0);
        wheel.pass(1);
        wheel.breakOff(2);
        wheel.breakOff(5);
        wheel.pass(1);
        same("one in the queue and one in a slot", wheel.count(8), 2);
        line("the queue closes up", wheel, 3, 0, 3, 4);
        line("the slot, too", wheel, 2, 1);
    }

    private static void atTheEndOfTheTick() {
        Counted wheel = new Counted();
        wheel.set(1, 1);
        wheel.give(1, 0, 0);
        wheel.give(300, 0, 0);
        breakFirst(wheel, 2);
        wheel.pass(1);
        same("one is swept at its tick", wheel.promise(0, STATE), 4);
        same("then the other one is not too many", wheel.promise(1, STATE), 3);
        Counted queue = new Counted();
        queue.set(0, 1);
        queue.set(1, 1);
        queue.giveMany(3, 1);
        queue.give(300, 0, 0);
        queue.pass(1);
        queue.breakOff(1);
        queue.breakOff(3);
        queue.pass(1);
        same("one is swept at the front of the queue", queue.promise(1, STATE), 4);
        same("then the other one is not too many", queue.promise(3, STATE), 3);
        Counted fallen = new Counted();
        fallen.set(1, 1);
        fallen.give(8, 0, 0);
        fallen.give(300, 0, 0);
        fallen.pass(7);
        breakFirst(fallen, 2);
        fallen.pass(1);
        same("one is swept as its slot falls", fallen.promise(0, STATE), 4);
        same("then the other one is not too many", fallen.promise(1, STATE), 3);
    }

    private static void oneLessIsLeft() {
        sentence(TICK, "When a promise with repetitions left is called, one less is left, "
                + "and its due tick becomes greater:");
        Counted wheel = new Counted();
        wheel.give(2, 5, 2);
        wheel.pass(1);
        tells("before its tick", wheel, 0, 0, 2, 5, 2);
        wheel.pass(1);
        tells("called once", wheel, 0, 0, 7, 5, 1);
        wheel.pass(5);
        tells("called twice", wheel, 0, 0, 12, 5, 0);
        wheel.pass(5);
        tells("called a third time", wheel, 0, 2, 12, 5, 0);
        Counted often = new Counted();
        often.give(1, 1, 99);
        same("a hundred calls by 99 repetitions", often.pass(600), 100);
        tells("done", often, 0, 2, 100, 1, 0);
    }

    private static void driftZero() {
        sentence(TICK, "by the drift 0 (at first) by its period, "
                + "as often as is needed to be greater than the present tick");
        same("the drift at first", new Counted().count(16), 0);
        Counted onTime = new Counted();
        onTime.give(4, 9, 1);
        onTime.pass(4);
        same("on time: once", onTime.promise(0, DUE), 13);
        dueAgain(0, 511, 512);
        dueAgain(0, 7, 8);
        dueAgain(0, 6, 13);
        dueAgain(0, 5, 11);
        dueAgain(0, 4, 9);
        dueAgain(0, 3, 10);
        dueAgain(0, 2, 9);
        dueAgain(0, 1, 8);
    }

    /** By the room 1 the last of seven that are due at 1 is called at 7. */
    private static Counted calledLate(int drift, int period) {
        Counted wheel = new Counted();
        wheel.set(0, 1);
        wheel.set(2, drift);
        wheel.giveMany(6, 1);
        wheel.give(1, period, 9);
        wheel.pass(7);
        same("called at 7", wheel.promise(6, LATENESS), 6);
        return wheel;
    }

    private static void dueAgain(int drift, int period, int due) {
        Counted wheel = calledLate(drift, period);
        String what = "called at 7 instead of 1, period " + period;
        same(what, wheel.promise(6, DUE), due);
        same(what + ", its next call", wheel.when(6), due);
    }

    private static void passedOver() {
        sentence(TICK, "(each time more than once is a repetition that is passed over, "
                + "and is not taken from those that are left);");
        int[] periods = {511, 7, 6, 5, 4, 3, 2, 1};
        int[] due = {0, 0, 1, 1, 1, 2, 3, 6};
        for (int at = 0; at < periods.length; at++) {
            Counted wheel = calledLate(0, periods[at]);
            same("passed over by the period " + periods[at], wheel.count(9), due[at]);
            same("left by the period " + periods[at], wheel.promise(6, LEFT), 8);
        }
        Counted onTime = new Counted();
        onTime.give(1, 1, 99);
        onTime.pass(50);
        same("on time nothing is passed over", onTime.count(9), 0);
        same("by the drift 1 nothing is", calledLate(1, 1).count(9), 0);
        Counted last = new Counted();
        last.set(0, 1);
        last.giveMany(6, 1);
        last.give(1, 1, 0);
        last.pass(7);
        same("nor without repetitions left", last.count(9), 0);
    }

    private static void driftOne() {
        sentence(TICK, "by the drift 1 it becomes the present tick plus the period.");
        dueAgain(1, 511, 518);
        dueAgain(1, 7, 14);
        dueAgain(1, 6, 13);
        dueAgain(1, 4, 11);
        dueAgain(1, 1, 8);
        Counted onTime = new Counted();
        onTime.set(2, 1);
        onTime.give(4, 9, 1);
        onTime.pass(4);
        same("on time", onTime.promise(0, DUE), 13);
        same("one less is left", onTime.promise(0, LEFT), 0);
    }

    private static void putIntoASlotAgain() {
        sentence(TICK, "It is put into a slot, and is waiting.");
        int[] periods = {1, 6, 7, 8, 62, 63, 64, 511};
        int[] rings = {0, 0, 0, 1, 1, 1, 2, 2};
        int[] slots = {2, 7, 0, 1, 7, 0, 1, 0};
        for (int drift = 0; drift <= 1; drift++) {
            for (int at = 0; at < periods.length; at++) {
                Counted wheel = new Counted();
                wheel.set(2, drift);
                wheel.give(1, periods[at], 1);
                wheel.pass(1);
                tells("period " + periods[at], wheel, 0, 0, 1 + periods[at], periods[at], 0,
                        rings[at], slots[at], 0);
                same("no fall", wheel.count(7), 0);
            }
        }
        Counted behind = new Counted();
        behind.give(9, 0, 0);
        behind.give(1, 8, 1);
        behind.pass(1);
        line("behind the one that stands there", behind, 1, 1, 0, 1);
    }

    private static void done() {
        sentence(TICK, "A promise without repetitions left is done.");
        Counted wheel = new Counted();
        wheel.give(1, 4, 0);
        wheel.give(1, 0, 0);
        same("called", wheel.pass(1), 2);
        tells("with a period", wheel, 0, 2, 1, 4, 0, NONE, NONE, NONE, 1, 0);
        tells("without one", wheel, 1, 2, 1, 0, 0, NONE, NONE, NONE, 1, 0);
        same("never again", wheel.pass(600), 0);
    }

    private static void diary() {
        sentence(TICK, "The diary keeps the latest 12 calls; call 0 is the latest one.");
        Story story = wheel -> {
            for (int promise = 0; promise < 40; promise++) {
                wheel.give(1 + promise, 0, 0);
            }
        };
        for (int calls = 0; calls <= 40; calls++) {
            Counted wheel = story.told();
            if (calls > 0) {
                wheel.pass(calls);
            }
            for (int call = 0; call < 12; call++) {
                int promise = calls - 1 - call;
                String what = "after " + calls + " calls, call " + call;
                same(what, wheel.call(call, 0), promise < 0 ? NONE : promise);
                same(what + ", due", wheel.call(call, 1), promise < 0 ? NONE : promise + 1);
                same(what + ", tick", wheel.call(call, 2), promise < 0 ? NONE : promise + 1);
            }
            same("no thirteenth one", wheel.call(12, 0), INVALID);
        }
    }
}
