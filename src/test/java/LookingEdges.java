/** Promises 15 to 20: each sentence has a test of its own. */
final class LookingEdges extends Edges {
    private static final int[] NO_PROMISES = {MIN, -1, GIVEN, 39, 40, MAX};

    private LookingEdges() {
    }

    static void go() {
        count();
        promise();
        slot();
        stands();
        call();
        next();
    }

    private static void counts(String what, Story story, int number, int due) {
        answers(what, story, due, wheel -> wheel.count(number));
    }

    // ---- promise 15

    private static void count() {
        countTick();
        countGiven();
        countWaiting();
        countReady();
        countBroken();
        countCalls();
        countLate();
        countFalls();
        countSwept();
        countPassedOver();
        countLongestQueue();
        countSnapshots();
        countStates();
        countText();
        countSettings();
        countReturns();
        countWrong();
    }

    private static void countTick() {
        sentence("15", "Returns a number. - `what`: 0 the present tick,");
        counts("at first", NEW, 0, 0);
        counts("later", BUSY, 0, 2);
        counts("at last", AT_THE_LAST_TICK, 0, 20000);
        counts("restored", BUSY.then(wheel -> wheel.restore(1)), 0, 1);
    }

    private static void countGiven() {
        sentence("15", "1 the number of promises given,");
        counts("none", NEW, 1, 0);
        counts("done, broken and swept ones, too", BUSY, 1, GIVEN);
        counts("all", FORTY, 1, 40);
        counts("all are done", FORTY.then(wheel -> wheel.pass(600)), 1, 40);
        counts("undone", FORTY.then(Counted::undo), 1, 39);
    }

    private static void countWaiting() {
        sentence("15", "2 of waiting ones,");
        counts("none", NEW, 2, 0);
        counts("in the rings, no broken ones", BUSY, 2, 3);
        counts("all", FORTY, 2, 40);
        counts("one is called", FORTY.then(wheel -> wheel.pass(1)), 2, 39);
        counts("all are called", FORTY.then(wheel -> wheel.pass(600)), 2, 0);
        counts("one that is repeated waits", NEW.then(wheel -> {
            wheel.give(1, 1, 9);
            wheel.pass(5);
        }), 2, 1);
    }

    private static void countReady() {
        sentence("15", "3 of ready ones,");
        counts("none", NEW, 3, 0);
        counts("in the queue, no broken one", BUSY, 3, 1);
        counts("many", NEW.then(wheel -> {
            wheel.set(0, 1);
            wheel.giveMany(40, 1);
            wheel.pass(1);
        }), 3, 39);
        counts("one was called", BUSY.then(wheel -> wheel.pass(1)), 3, 0);
    }

    private static void countBroken() {
        sentence("15", "4 of broken ones that stand in slots and in the queue,");
        counts("none", NEW, 4, 0);
        counts("one in a slot and one in the queue", BUSY, 4, 2);
        counts("swept ones do not stand", BUSY.then(Counted::sweep), 4, 0);
        counts("one is swept in the queue", BUSY.then(wheel -> wheel.pass(2)), 4, 1);
        counts("one is swept at its tick", BUSY.then(wheel -> wheel.pass(18)), 4, 0);
        counts("restored", BUSY.then(wheel -> wheel.restore(1)), 4, 0);
    }

    private static void countCalls() {
        sentence("15", "5 of calls,");
        counts("none", NEW, 5, 0);
        counts("two", BUSY, 5, 2);
        counts("more than the diary keeps", FORTY.then(wheel -> wheel.pass(600)), 5, 40);
        counts("by repetitions", NEW.then(wheel -> {
            wheel.give(1, 1, 99);
            wheel.pass(600);
        }), 5, 100);
        counts("restored", BUSY.then(wheel -> wheel.restore(1)), 5, 1);
    }

    private static void countLate() {
        sentence("15", "6 of late calls,");
        counts("none", NEW, 6, 0);
        counts("one of two", BUSY, 6, 1);
        counts("none of forty", FORTY.then(wheel -> wheel.pass(600)), 6, 0);
        counts("all but one", NEW.then(wheel -> {
            wheel.set(0, 1);
            wheel.giveMany(40, 1);
            wheel.pass(600);
        }), 6, 39);
    }

    private static void countFalls() {
        sentence("15", "7 of falls,");
        counts("none", NEW, 7, 0);
        counts("not by putting", BUSY, 7, 0);
        counts("none before", BUSY.then(wheel -> wheel.passTo(15)), 7, 0);
        counts("one, the broken one is none", BUSY.then(wheel -> wheel.passTo(16)), 7, 1);
        counts("from ring 2 to 1", BUSY.then(wheel -> wheel.passTo(256)), 7, 2);
        counts("from ring 1 to 0", BUSY.then(wheel -> wheel.passTo(296)), 7, 3);
        counts("no more", BUSY.then(wheel -> wheel.passTo(2000)), 7, 3);
        Story repeated = wheel -> wheel.give(1, 64, 2);
        counts("by a first repetition", repeated.then(wheel -> wheel.passTo(127)), 7, 1);
        counts("by a second one", repeated.then(wheel -> wheel.passTo(128)), 7, 2);
    }

    private static void countSwept() {
        sentence("15", "8 of broken ones that were swept,");
        counts("none", NEW, 8, 0);
        counts("one", BUSY, 8, 1);
        counts("by sweep()", BUSY.then(Counted::sweep), 8, 3);
        counts("in the queue", BUSY.then(wheel -> wheel.pass(2)), 8, 2);
        counts("by a fall", BUSY.then(wheel -> wheel.passTo(16)), 8, 3);
        counts("in ring 0", NEW.then(wheel -> {
            wheel.give(2, 0, 0);
            wheel.breakOff(0);
            wheel.pass(2);
        }), 8, 1);
        counts("by the bound", BUSY.then(wheel -> {
            wheel.set(1, 0);
            wheel.pass(1);
        }), 8, 3);
    }

    private static void countPassedOver() {
        sentence("15", "9 of repetitions passed over,");
        counts("none", NEW, 9, 0);
        counts("late, but by less than the period", BUSY, 9, 0);
        Story six = wheel -> {
            wheel.set(0, 1);
            wheel.giveMany(6, 1);
            wheel.give(1, 1, 9);
        };
        counts("none before", six.then(wheel -> wheel.pass(6)), 9, 0);
        counts("six at once", six.then(wheel -> wheel.pass(7)), 9, 6);
        counts("no more", six.then(wheel -> wheel.pass(100)), 9, 6);
    }

    private static void countLongestQueue() {
        sentence("15", "10 the greatest number of promises (broken ones, too) "
                + "that were in the queue at the end of a tick,");
        counts("none", NEW, 10, 0);
        counts("three were in it, two at the end of a tick", NEW.then(wheel -> {
            wheel.set(0, 1);
            wheel.giveMany(3, 1);
            wheel.pass(1);
        }), 10, 2);
        counts("all are called at once", NEW.then(wheel -> {
            wheel.giveMany(3, 1);
            wheel.pass(1);
        }), 10, 0);
        counts("it stays when the queue is empty", BUSY.then(wheel -> wheel.pass(600)), 10, 3);
        counts("the greatest", NEW.then(wheel -> {
            wheel.set(0, 1);
            wheel.giveMany(40, 1);
            wheel.pass(9);
        }), 10, 39);
        counts("broken ones, too", NEW.then(wheel -> {
            wheel.set(0, 1);
            wheel.giveMany(3, 1);
            wheel.giveMany(4, 2);
            wheel.pass(1);
            wheel.breakOff(2);
            wheel.pass(1);
        }), 10, 5);
        queueAfterTheSweep();
    }

    private static void queueAfterTheSweep() {
        Story swept = wheel -> {
            wheel.set(0, 1);
            wheel.set(1, 0);
            wheel.giveMany(3, 1);
            wheel.giveMany(2, 2);
            wheel.pass(1);
            wheel.breakOff(2);
            wheel.pass(1);
        };
        counts("those that are swept when a tick ends are gone", swept, 10, 2);
        counts("the end of a tick, not a sweep between", NEW.then(wheel -> {
            wheel.set(0, 1);
            wheel.giveMany(3, 1);
            wheel.pass(1);
            wheel.breakOff(1);
            wheel.sweep();
        }), 10, 2);
        counts("restored", BUSY.then(wheel -> wheel.take(0)).then(wheel -> {
            wheel.giveMany(20, 1);
            wheel.pass(1);
            wheel.restore(0);
        }), 10, 3);
    }

    private static void countSnapshots() {
        sentence("15", "11 the number of snapshots,");
        counts("none", NEW, 11, 0);
        counts("one", BUSY, 11, 1);
        counts("the same one again", BUSY.then(wheel -> wheel.take(1)), 11, 1);
        counts("two", BUSY.then(wheel -> wheel.take(0)), 11, 2);
        counts("restoring takes none", BUSY.then(wheel -> wheel.restore(1)), 11, 1);
    }

    private static void countStates() {
        sentence("15", "12 of states in the history,");
        counts("none", NEW, 12, 0);
        counts("one", NEW.then(wheel -> wheel.pass(1)), 12, 1);
        counts("four", BUSY, 12, KEPT);
        counts("five", BUSY.then(wheel -> wheel.pass(1)), 12, 5);
        counts("no more", FORTY, 12, 5);
        counts("undone", FORTY.then(Counted::undo), 12, 4);
    }

    private static void countText() {
        sentence("15", "13 the length of the text,");
        counts("none", NEW, 13, 0);
        counts("kept after a failure", BUSY, 13, 8);
        counts("all", LONG_TEXT, 13, 120);
        counts("emptied", LONG_TEXT.then(Counted::clearText), 13, 0);
        counts("run", LONG_TEXT.then(Counted::run), 13, 0);
        counts("spaces count", NEW.then(wheel -> wheel.write("  a ")), 13, 4);
    }

    private static void countSettings() {
        sentence("15", "14 to 16 what set() sets for 0 to 2");
        int[] first = {3, 5, 0};
        int[] values = {20, 40, 1};
        for (int number = 0; number <= 2; number++) {
            int what = number;
            int value = values[number];
            Story set = NEW.then(wheel -> wheel.set(what, value));
            for (int other = 0; other <= 2; other++) {
                counts("at first", NEW, 14 + other, first[other]);
                counts("set " + what, set, 14 + other, other == what ? value : first[other]);
                counts("undone", set.then(Counted::undo), 14 + other, first[other]);
            }
        }
    }

    private static void countReturns() {
        sentence("15", "Returns the number;");
        int[] due = {2, 8, 3, 1, 2, 2, 1, 0, 1, 0, 3, 1, 4, 8, 1, 5, 0};
        for (int number = 0; number < due.length; number++) {
            int what = number;
            unchanged("count(" + what + ")", BUSY, due[what], wheel -> wheel.count(what));
        }
    }

    private static void countWrong() {
        sentence("15", "INVALID_ARGUMENT if what is out of range.");
        for (int what : new int[] {MIN, -1, 17, 18, MAX}) {
            refused("what " + what, BUSY, INVALID, wheel -> wheel.count(what));
        }
    }

    // ---- promise 16

    private static void parts(String what, Story story, int promise, int part, int due) {
        answers(what, story, due, wheel -> wheel.promise(promise, part));
    }

    private static void promise() {
        promiseNumber();
        promiseState();
        promiseDue();
        promisePeriod();
        promiseLeft();
        promiseRing();
        promiseSlot();
        promisePlace();
        promiseCalled();
        promiseLateness();
        promiseReturns();
        promiseWrong();
    }

    private static void promiseNumber() {
        sentence("16", "Tells about a promise. - `promise`: a promise");
        refused("none is given", NEW, INVALID, wheel -> wheel.promise(0, 0));
        parts("the first", FORTY, 0, DUE, 1);
        parts("the last", FORTY, 39, DUE, 196);
        refused("behind the last", FORTY, INVALID, wheel -> wheel.promise(40, DUE));
        refused("behind the last given", BUSY, INVALID, wheel -> wheel.promise(GIVEN, DUE));
        refused("before the first", BUSY, INVALID, wheel -> wheel.promise(-1, DUE));
    }

    private static void promiseState() {
        sentence("16", "`what`: 0 its state,");
        int[] states = {2, 0, 1, 3, 0, 3, 0, 4};
        for (int promise = 0; promise < GIVEN; promise++) {
            parts("of " + promise, BUSY, promise, STATE, states[promise]);
        }
    }

    private static void promiseDue() {
        sentence("16", "1 its due tick,");
        int[] dues = {1, 4, 1, 1, 20, 20, 300, 5};
        for (int promise = 0; promise < GIVEN; promise++) {
            parts("of " + promise, BUSY, promise, DUE, dues[promise]);
        }
    }

    private static void promisePeriod() {
        sentence("16", "2 its period,");
        parts("none", BUSY, DONE, PERIOD, 0);
        parts("repeated", BUSY, WAITING, PERIOD, 3);
        parts("the greatest", NEW.then(wheel -> wheel.give(1, 511, 0)), 0, PERIOD, 511);
        parts("after its last call", NEW.then(wheel -> {
            wheel.give(1, 5, 1);
            wheel.pass(9);
        }), 0, PERIOD, 5);
    }

    private static void promiseLeft() {
        sentence("16", "3 the repetitions that are left,");
        parts("none", BUSY, DONE, LEFT, 0);
        parts("one less", BUSY, WAITING, LEFT, 8);
        parts("the most", NEW.then(wheel -> wheel.give(1, 1, 99)), 0, LEFT, 99);
        parts("none any more", NEW.then(wheel -> {
            wheel.give(1, 5, 1);
            wheel.pass(9);
        }), 0, LEFT, 0);
        parts("a broken one keeps them", BUSY.then(wheel -> wheel.breakOff(WAITING)), WAITING, LEFT, 8);
    }

    private static void promiseRing() {
        sentence("16", "4 its ring (NONE if it stands in no slot),");
        int[] rings = {NONE, 0, NONE, NONE, 1, 1, 2, NONE};
        for (int promise = 0; promise < GIVEN; promise++) {
            parts("of " + promise, BUSY, promise, RING, rings[promise]);
        }
    }

    private static void promiseSlot() {
        sentence("16", "5 its slot (NONE likewise),");
        int[] slots = {NONE, 4, NONE, NONE, 2, 2, 4, NONE};
        for (int promise = 0; promise < GIVEN; promise++) {
            parts("of " + promise, BUSY, promise, SLOT, slots[promise]);
        }
        parts("slot 0 is a slot", NEW.then(wheel -> {
            wheel.pass(1);
            wheel.give(7, 0, 0);
        }), 0, SLOT, 0);
    }

    private static void promisePlace() {
        sentence("16", "6 its place in the slot or in the queue, from 0 (NONE if it stands in none),");
        int[] places = {NONE, 0, 0, 1, 0, 1, 0, NONE};
        for (int promise = 0; promise < GIVEN; promise++) {
            parts("of " + promise, BUSY, promise, PLACE, places[promise]);
        }
        Story full = NEW.then(wheel -> wheel.giveMany(40, 300));
        parts("the last of forty", full, 39, PLACE, 39);
        parts("the first of forty", full, 0, PLACE, 0);
        parts("stepping up", full.then(wheel -> wheel.move(0, 9)), 39, PLACE, 38);
        parts("in the queue, stepping up", BUSY.then(wheel -> wheel.pass(1)), BROKEN_IN_QUEUE, PLACE, 0);
    }

    private static void promiseCalled() {
        sentence("16", "7 how often it was called,");
        int[] called = {1, 1, 0, 0, 0, 0, 0, 0};
        for (int promise = 0; promise < GIVEN; promise++) {
            parts("of " + promise, BUSY, promise, CALLED, called[promise]);
        }
        parts("all repetitions", NEW.then(wheel -> {
            wheel.give(1, 1, 99);
            wheel.pass(600);
        }), 0, CALLED, 100);
    }

    private static void promiseLateness() {
        sentence("16", "8 the sum of the ticks by which its calls were late");
        int[] sums = {0, 1, 0, 0, 0, 0, 0, 0};
        for (int promise = 0; promise < GIVEN; promise++) {
            parts("of " + promise, BUSY, promise, LATENESS, sums[promise]);
        }
        Story two = wheel -> {
            wheel.set(0, 1);
            wheel.giveMany(4, 1);
            wheel.give(1, 6, 9);
            wheel.giveMany(3, 7);
        };
        parts("late by 4", two.then(wheel -> wheel.pass(5)), 4, LATENESS, 4);
        parts("not yet called again", two.then(wheel -> wheel.pass(9)), 4, LATENESS, 4);
        parts("late by 3 more", two.then(wheel -> wheel.pass(10)), 4, LATENESS, 7);
        parts("then on time", two.then(wheel -> wheel.pass(90)), 4, LATENESS, 7);
    }

    private static void promiseReturns() {
        sentence("16", "Returns the value;");
        int[] due = {0, 4, 3, 8, 0, 4, 0, 1, 1};
        for (int part = 0; part < due.length; part++) {
            int what = part;
            unchanged("promise(1, " + what + ")", BUSY, due[what], wheel -> wheel.promise(WAITING, what));
        }
    }

    private static void promiseWrong() {
        sentence("16", "INVALID_ARGUMENT if there is no such promise or what is out of range.");
        for (int promise : NO_PROMISES) {
            refused("promise " + promise, BUSY, INVALID, wheel -> wheel.promise(promise, 0));
        }
        for (int what : new int[] {MIN, -1, 9, 10, MAX}) {
            refused("what " + what, BUSY, INVALID, wheel -> wheel.promise(WAITING, what));
            refused("what " + what + " of one that is in no slot", BUSY, INVALID,
                    wheel -> wheel.promise(DONE, what));
        }
    }

    // ---- promise 17

    private static void slot() {
        slotRing();
        slotSlot();
        slotHowMany();
        slotBroken();
        slotSmallest();
        slotReturns();
        slotWrong();
    }

    private static void slotRing() {
        sentence("17", "Tells about a slot. - `ring`: 0 to 2");
        answers("0", BUSY, 1, wheel -> wheel.slot(0, 4, 0));
        answers("1", BUSY, 2, wheel -> wheel.slot(1, 2, 0));
        answers("2", BUSY, 1, wheel -> wheel.slot(2, 4, 0));
        refused("-1", BUSY, INVALID, wheel -> wheel.slot(-1, 0, 0));
        refused("3, though the queue is not empty", BUSY, INVALID, wheel -> wheel.slot(3, 0, 0));
    }

    private static void slotSlot() {
        sentence("17", "`slot`: 0 to 7");
        Story edges = wheel -> {
            wheel.pass(1);
            wheel.give(7, 0, 0);
            wheel.give(6, 0, 0);
        };
        answers("0", edges, 8, wheel -> wheel.slot(0, 0, 2));
        answers("7", edges, 7, wheel -> wheel.slot(0, 7, 2));
        for (int ring = 0; ring <= 2; ring++) {
            int which = ring;
            refused("-1", edges, INVALID, wheel -> wheel.slot(which, -1, 0));
            refused("8", edges, INVALID, wheel -> wheel.slot(which, 8, 0));
        }
    }

    private static void slotHowMany() {
        sentence("17", "`what`: 0 for how many stand there,");
        Counted wheel = new Counted();
        for (int given = 0; given <= 40; given++) {
            same("how many", wheel.slot(2, 4, 0), given);
            same("given", wheel.give(300, 0, 0), given < 40 ? given : FULL);
        }
        wheel.breakOff(3);
        same("broken ones, too", wheel.slot(2, 4, 0), 40);
        wheel.sweep();
        same("no swept ones", wheel.slot(2, 4, 0), 39);
        wheel.move(0, 9);
        same("no moved ones", wheel.slot(2, 4, 0), 38);
    }

    private static void slotBroken() {
        sentence("17", "1 for how many of these are broken,");
        Counted wheel = new Counted();
        wheel.giveMany(3, 20);
        wheel.give(300, 0, 0);
        wheel.breakOff(3);
        for (int broken = 0; broken < 3; broken++) {
            same("broken", wheel.slot(1, 2, 1), broken);
            wheel.breakOff(broken);
        }
        same("all", wheel.slot(1, 2, 1), 3);
        wheel.sweep();
        same("none stands", wheel.slot(1, 2, 1), 0);
    }

    private static void slotSmallest() {
        sentence("17", "2 for the smallest due tick of those that are not (NONE if there is none)");
        Counted wheel = new Counted();
        same("nobody", wheel.slot(1, 2, 2), NONE);
        int[] dues = {22, 17, 16, 23, 16};
        for (int due : dues) {
            wheel.give(due, 0, 0);
        }
        same("the smallest", wheel.slot(1, 2, 2), 16);
        wheel.breakOff(2);
        same("one more of the same", wheel.slot(1, 2, 2), 16);
        wheel.breakOff(4);
        same("of those that are not broken", wheel.slot(1, 2, 2), 17);
        wheel.breakOff(1);
        same("the front one", wheel.slot(1, 2, 2), 22);
        wheel.breakOff(0);
        same("the last one", wheel.slot(1, 2, 2), 23);
        wheel.breakOff(3);
        same("all are broken", wheel.slot(1, 2, 2), NONE);
        same("but they stand", wheel.slot(1, 2, 0), 5);
    }

    private static void slotReturns() {
        sentence("17", "Returns the value;");
        unchanged("how many", BUSY, 2, wheel -> wheel.slot(1, 2, 0));
        unchanged("broken", BUSY, 1, wheel -> wheel.slot(1, 2, 1));
        unchanged("smallest", BUSY, 20, wheel -> wheel.slot(1, 2, 2));
    }

    private static void slotWrong() {
        sentence("17", "INVALID_ARGUMENT if an argument is out of range.");
        for (int wrong : new int[] {MIN, -1, 8, 24, MAX}) {
            refused("ring " + wrong, BUSY, INVALID, wheel -> wheel.slot(wrong, 2, 0));
            refused("slot " + wrong, BUSY, INVALID, wheel -> wheel.slot(1, wrong, 0));
            refused("what " + wrong, BUSY, INVALID, wheel -> wheel.slot(1, 2, wrong));
        }
        refused("what 3", BUSY, INVALID, wheel -> wheel.slot(1, 2, 3));
        refused("what 3 of an empty one", BUSY, INVALID, wheel -> wheel.slot(1, 3, 3));
    }

    // ---- promise 18

    private static void stands() {
        standsRing();
        standsSlot();
        standsPlace();
        standsReturns();
        standsWrong();
        standsNone();
    }

    private static void standsRing() {
        sentence("18", "Returns who stands somewhere. - `ring`: 0 to 2, or 3 for the queue");
        answers("0", BUSY, WAITING, wheel -> wheel.stands(0, 4, 0));
        answers("1", BUSY, IN_RING_1, wheel -> wheel.stands(1, 2, 0));
        answers("2", BUSY, IN_RING_2, wheel -> wheel.stands(2, 4, 0));
        answers("3", BUSY, READY, wheel -> wheel.stands(3, 0, 0));
        refused("-1", BUSY, INVALID, wheel -> wheel.stands(-1, 0, 0));
        refused("4", BUSY, INVALID, wheel -> wheel.stands(4, 0, 0));
    }

    private static void standsSlot() {
        sentence("18", "`slot`: 0 to 7 (0 for the queue)");
        Story edges = wheel -> {
            wheel.pass(1);
            wheel.give(7, 0, 0);
            wheel.give(6, 0, 0);
        };
        answers("0", edges, 0, wheel -> wheel.stands(0, 0, 0));
        answers("7", edges, 1, wheel -> wheel.stands(0, 7, 0));
        for (int number = 0; number <= 3; number++) {
            int ring = number;
            refused("-1 in " + ring, edges, INVALID, wheel -> wheel.stands(ring, -1, 0));
            refused("8 in " + ring, edges, INVALID, wheel -> wheel.stands(ring, 8, 0));
        }
        for (int number = 1; number <= 7; number++) {
            int slot = number;
            refused(slot + " of the queue", BUSY, INVALID, wheel -> wheel.stands(3, slot, 0));
        }
    }

    private static void standsPlace() {
        sentence("18", "`place`: 0 or more, from the front on");
        Story full = NEW.then(wheel -> wheel.giveMany(40, 300));
        for (int number = 0; number < 40; number++) {
            int place = number;
            answers("in a slot", full, place, wheel -> wheel.stands(2, 4, place));
        }
        answers("in the queue", BUSY, READY, wheel -> wheel.stands(3, 0, 0));
        answers("in the queue, behind", BUSY, BROKEN_IN_QUEUE, wheel -> wheel.stands(3, 0, 1));
        refused("-1", BUSY, INVALID, wheel -> wheel.stands(1, 2, -1));
        refused("-1 of the queue", BUSY, INVALID, wheel -> wheel.stands(3, 0, -1));
        refused("the least", BUSY, INVALID, wheel -> wheel.stands(1, 2, MIN));
        refused("-1 of an empty one", NEW, INVALID, wheel -> wheel.stands(0, 0, -1));
    }

    private static void standsReturns() {
        sentence("18", "Returns the promise;");
        unchanged("in ring 0", BUSY, WAITING, wheel -> wheel.stands(0, 4, 0));
        unchanged("a broken one, too", BUSY, BROKEN_IN_SLOT, wheel -> wheel.stands(1, 2, 1));
        unchanged("in the queue", BUSY, BROKEN_IN_QUEUE, wheel -> wheel.stands(3, 0, 1));
        Counted wheel = NEW.then(made -> made.giveMany(3, 9)).told();
        wheel.move(0, 9);
        line("in the order of the slot, not of the numbers", wheel, 1, 1, 1, 2, 0);
    }

    private static void standsWrong() {
        sentence("18", "INVALID_ARGUMENT if an argument is not as told;");
        for (int wrong : new int[] {MIN, -1, 24, 25, MAX}) {
            refused("ring " + wrong, BUSY, INVALID, wheel -> wheel.stands(wrong, 0, 0));
            refused("slot " + wrong, BUSY, INVALID, wheel -> wheel.stands(1, wrong, 0));
            refused("slot " + wrong + " of the queue", BUSY, INVALID, wheel -> wheel.stands(3, wrong, 0));
        }
        for (int wrong : new int[] {MIN, -40, -1}) {
            refused("place " + wrong, BUSY, INVALID, wheel -> wheel.stands(1, 2, wrong));
        }
    }

    private static void standsNone() {
        sentence("18", "NONE if not so many stand there.");
        unchanged("nobody", NEW, NONE, wheel -> wheel.stands(0, 0, 0));
        unchanged("nobody in the queue", NEW, NONE, wheel -> wheel.stands(3, 0, 0));
        for (int place : new int[] {2, 3, 39, 40, 41, MAX}) {
            unchanged("place " + place + " of two", BUSY, NONE, wheel -> wheel.stands(1, 2, place));
            unchanged("place " + place + " of two in the queue", BUSY, NONE, wheel -> wheel.stands(3, 0, place));
        }
        Story full = NEW.then(wheel -> wheel.giveMany(40, 300));
        unchanged("place 40 of forty", full, NONE, wheel -> wheel.stands(2, 4, 40));
        unchanged("swept", BUSY.then(Counted::sweep), NONE, wheel -> wheel.stands(3, 0, 1));
    }

    // ---- promise 19

    private static void call() {
        callNumber();
        callWhat();
        callReturns();
        callWrong();
        callNone();
    }

    private static Story calls(int calls) {
        return wheel -> {
            wheel.give(3, 2, 99);
            for (int call = 0; call < calls; call++) {
                wheel.pass(call == 0 ? 3 : 2);
            }
        };
    }

    private static void callNumber() {
        sentence("19", "Tells about a call of the diary. - `call`: 0 to 11");
        answers("0", calls(12), 25, wheel -> wheel.call(0, 2));
        answers("11", calls(12), 3, wheel -> wheel.call(11, 2));
        answers("11 of thirteen", calls(13), 5, wheel -> wheel.call(11, 2));
        answers("11 of many", calls(50), 3 + 2 * 38, wheel -> wheel.call(11, 2));
        refused("-1", calls(12), INVALID, wheel -> wheel.call(-1, 2));
        refused("12", calls(12), INVALID, wheel -> wheel.call(12, 2));
        refused("12 of thirteen", calls(13), INVALID, wheel -> wheel.call(12, 2));
    }

    private static void callWhat() {
        sentence("19", "`what`: 0 for the promise, 1 for the due tick that it had, 2 for the tick of the call");
        answers("the promise", BUSY, WAITING, wheel -> wheel.call(0, 0));
        answers("the due tick that it had, not the one it has", BUSY, 1, wheel -> wheel.call(0, 1));
        answers("the tick of the call", BUSY, 2, wheel -> wheel.call(0, 2));
        answers("the promise before", BUSY, DONE, wheel -> wheel.call(1, 0));
        answers("its due tick", BUSY, 1, wheel -> wheel.call(1, 1));
        answers("its tick", BUSY, 1, wheel -> wheel.call(1, 2));
        answers("moved later", BUSY.then(wheel -> wheel.move(WAITING, 90)), 1, wheel -> wheel.call(0, 1));
    }

    private static void callReturns() {
        sentence("19", "Returns the value;");
        unchanged("promise", BUSY, WAITING, wheel -> wheel.call(0, 0));
        unchanged("due tick", BUSY, 1, wheel -> wheel.call(0, 1));
        unchanged("tick", BUSY, 2, wheel -> wheel.call(0, 2));
        answers("restored", BUSY.then(wheel -> wheel.restore(1)), DONE, wheel -> wheel.call(0, 0));
    }

    private static void callWrong() {
        sentence("19", "INVALID_ARGUMENT if an argument is out of range;");
        for (int call : new int[] {MIN, -1, 12, 13, MAX}) {
            refused("call " + call, BUSY, INVALID, wheel -> wheel.call(call, 0));
            refused("call " + call + ", none yet", NEW, INVALID, wheel -> wheel.call(call, 0));
        }
        for (int what : new int[] {MIN, -1, 3, 4, MAX}) {
            refused("what " + what, BUSY, INVALID, wheel -> wheel.call(0, what));
            refused("what " + what + ", not so many", BUSY, INVALID, wheel -> wheel.call(11, what));
        }
    }

    private static void callNone() {
        sentence("19", "NONE if there have not been so many calls.");
        for (int calls = 0; calls <= 13; calls++) {
            for (int number = 0; number < 12; number++) {
                int call = number;
                int due = call < calls ? 3 + 2 * (calls - 1 - call) : NONE;
                answers("call " + call + " of " + calls, calls(calls), due, wheel -> wheel.call(call, 2));
            }
        }
        answers("restored to before", BUSY.then(wheel -> wheel.restore(1)), NONE, wheel -> wheel.call(1, 0));
        answers("undone", calls(1).then(Counted::undo), NONE, wheel -> wheel.call(0, 0));
    }

    // ---- promise 20

    private static void next() {
        nextSmallest();
        nextOfSeveral();
        nextAgree();
        nextByAll();
        nextByRings();
        nextFromBehindThePresentSlot();
        nextWhat();
        nextReturns();
        nextWrong();
        nextNone();
    }

    private static void nextIs(String what, Story story, int promise, int due) {
        for (int number = 0; number <= 1; number++) {
            int way = number;
            answers(what + ", way " + way, story, promise, wheel -> wheel.next(way, 0));
            answers(what + ", due, way " + way, story, due, wheel -> wheel.next(way, 1));
        }
    }

    private static Story given(int... delays) {
        return wheel -> {
            for (int delay : delays) {
                wheel.give(delay, 0, 0);
            }
        };
    }

    private static void nextSmallest() {
        sentence("20", "Finds the waiting promise with the smallest due tick,");
        nextIs("in ring 0", given(7, 3, 5), 1, 3);
        nextIs("in ring 1", given(63, 8, 9), 1, 8);
        nextIs("in one slot of ring 1", given(15, 11, 14), 1, 11);
        nextIs("in ring 2", given(511, 300, 64), 2, 64);
        nextIs("in one slot of ring 2", given(127, 65, 64), 2, 64);
        nextIs("in all rings", given(300, 20, 7), 2, 7);
        nextIs("in two rings", given(300, 20), 1, 20);
        nextIs("in ring 1 before one in ring 0", given(8).then(wheel -> {
            wheel.pass(2);
            wheel.give(7, 0, 0);
        }), 0, 8);
        nextIs("in ring 2 before one in ring 1", given(64).then(wheel -> {
            wheel.pass(2);
            wheel.give(63, 0, 0);
        }), 0, 64);
        nextIs("of ready, broken and swept ones none", BUSY, WAITING, 4);
        nextIs("broken", given(3, 4).then(wheel -> wheel.breakOff(0)), 1, 4);
        nextIs("broken in the same slot", given(8, 9).then(wheel -> wheel.breakOff(0)), 1, 9);
        nextIs("moved", given(3, 4).then(wheel -> wheel.move(0, 5)), 1, 4);
    }

    private static void nextOfSeveral() {
        sentence("20", "of several the one with the smallest number,");
        nextIs("in one slot", given(9, 7, 7, 7), 1, 7);
        nextIs("not the one in front", given(7, 7, 7).then(wheel -> wheel.move(0, 7)), 0, 7);
        nextIs("not the one in front of ring 2", given(300, 300).then(wheel -> wheel.move(0, 300)), 0, 300);
        Story rings = given(64, 511, 64).then(wheel -> {
            wheel.pass(1);
            wheel.move(1, 63);
        });
        nextIs("in two rings", rings, 0, 64);
        Story nearer = given(511, 64).then(wheel -> {
            wheel.pass(1);
            wheel.move(0, 63);
        });
        nextIs("in two rings, the inner one", nearer, 0, 64);
        Story inner = given(511, 9).then(wheel -> {
            wheel.pass(2);
            wheel.move(0, 7);
        });
        nextIs("in the rings 0 and 1", inner, 0, 9);
        Story outer = given(9, 511).then(wheel -> {
            wheel.pass(2);
            wheel.move(1, 7);
        });
        nextIs("in the rings 1 and 0", outer, 0, 9);
    }

    private static void nextAgree() {
        sentence("20", "in two ways, which agree.");
        Story many = wheel -> {
            wheel.set(0, 2);
            for (int promise = 0; promise < 40; promise++) {
                wheel.give(1 + promise * 37 % 511, 1 + promise * 53 % 511, 99);
            }
        };
        for (int step = 0; step < 60; step++) {
            int ticks = step * 97;
            Counted wheel = many.then(made -> made.passTo(ticks)).told();
            same("who, after " + ticks, wheel.next(1, 0), wheel.next(0, 0));
            same("when, after " + ticks, wheel.next(1, 1), wheel.next(0, 1));
            Check.holds("one waits", wheel.next(0, 0) >= 0);
        }
    }

    private static void nextByAll() {
        sentence("20", "`way`: 0 by all promises,");
        answers("the first", given(5, 6), 0, wheel -> wheel.next(0, 0));
        answers("the last of forty", given(511).then(wheel -> {
            wheel.giveMany(38, 500);
            wheel.give(499, 0, 0);
        }), 39, wheel -> wheel.next(0, 0));
        refused("-1", BUSY, INVALID, wheel -> wheel.next(-1, 0));
    }

    private static void nextByRings() {
        sentence("20", "1 by the rings: in each ring the first slot in which one is waiting,");
        answers("in ring 0", given(511, 63, 5), 2, wheel -> wheel.next(1, 0));
        answers("broken ones do not wait", given(511, 63, 5).then(wheel -> wheel.breakOff(2)), 1,
                wheel -> wheel.next(1, 0));
        answers("nor in ring 1", given(511, 63, 62, 8).then(wheel -> wheel.breakOff(3)), 62,
                wheel -> wheel.next(1, 1));
        answers("nor in ring 2", given(511, 64).then(wheel -> wheel.breakOff(1)), 511,
                wheel -> wheel.next(1, 1));
        answers("the queue is no ring", BUSY.then(wheel -> {
            wheel.breakOff(WAITING);
            wheel.breakOff(IN_RING_1);
            wheel.breakOff(IN_RING_2);
        }), NONE, wheel -> wheel.next(1, 0));
        answers("in each ring: ring 1 before ring 0", given(8).then(wheel -> {
            wheel.pass(2);
            wheel.give(7, 0, 0);
        }), 8, wheel -> wheel.next(1, 1));
        answers("in each ring: ring 2 before ring 1", given(64).then(wheel -> {
            wheel.pass(2);
            wheel.give(63, 0, 0);
        }), 64, wheel -> wheel.next(1, 1));
        refused("2", BUSY, INVALID, wheel -> wheel.next(2, 0));
    }

    private static void nextFromBehindThePresentSlot() {
        sentence("20", "from the one behind the present slot on around to the present one; of those in these slots");
        for (int start = 0; start < 16; start++) {
            nextAround("ring 0", start, 7, 1);
        }
        for (int start = 1; start < 128; start += 7) {
            nextAround("ring 1", start, 63, 8);
        }
        for (int start = 1; start < 1024; start += 73) {
            nextAround("ring 2", start, 511, 64);
        }
        nextIs("in the present slot of ring 1 alone", NEW.then(wheel -> wheel.pass(1)).then(given(63)), 0, 64);
        nextIs("in the present slot of ring 2 alone", NEW.then(wheel -> wheel.pass(1)).then(given(511)), 0, 512);
    }

    /** The far one is given first; the near one comes before it, also across the slot 0. */
    private static void nextAround(String what, int start, int far, int near) {
        Story at = NEW.then(wheel -> wheel.passTo(start));
        nextIs(what + " at " + start, at.then(given(far, near)), 1, start + near);
        nextIs(what + " at " + start + ", alone", at.then(given(far)), 0, start + far);
    }

    private static void nextWhat() {
        sentence("20", "`what`: 0 for the promise, 1 for its due tick");
        for (int way = 0; way <= 1; way++) {
            int which = way;
            answers("the promise", BUSY, WAITING, wheel -> wheel.next(which, 0));
            answers("its due tick", BUSY, 4, wheel -> wheel.next(which, 1));
            refused("-1", BUSY, INVALID, wheel -> wheel.next(which, -1));
            refused("2", BUSY, INVALID, wheel -> wheel.next(which, 2));
        }
    }

    private static void nextReturns() {
        sentence("20", "Returns the value;");
        for (int way = 0; way <= 1; way++) {
            int which = way;
            unchanged("the promise", BUSY, WAITING, wheel -> wheel.next(which, 0));
            unchanged("its due tick", BUSY, 4, wheel -> wheel.next(which, 1));
        }
    }

    private static void nextWrong() {
        sentence("20", "INVALID_ARGUMENT if an argument is out of range;");
        for (int wrong : new int[] {MIN, -1, 2, 3, MAX}) {
            refused("way " + wrong, BUSY, INVALID, wheel -> wheel.next(wrong, 0));
            refused("what " + wrong, BUSY, INVALID, wheel -> wheel.next(1, wrong));
            refused("way " + wrong + ", nobody waits", NEW, INVALID, wheel -> wheel.next(wrong, 1));
            refused("what " + wrong + ", nobody waits", NEW, INVALID, wheel -> wheel.next(0, wrong));
        }
    }

    private static void nextNone() {
        sentence("20", "NONE if none is waiting.");
        Story none = BUSY.then(wheel -> {
            wheel.breakOff(WAITING);
            wheel.breakOff(IN_RING_1);
            wheel.breakOff(IN_RING_2);
        });
        for (int way = 0; way <= 1; way++) {
            for (int part = 0; part <= 1; part++) {
                int which = way;
                int what = part;
                unchanged("at first", NEW, NONE, wheel -> wheel.next(which, what));
                unchanged("broken, ready, done and swept ones", none, NONE, wheel -> wheel.next(which, what));
                unchanged("all are done", FORTY.then(wheel -> wheel.pass(600)), NONE,
                        wheel -> wheel.next(which, what));
            }
        }
    }
}
