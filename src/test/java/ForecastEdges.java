/** Promises 21 to 23: each sentence has a test of its own. */
final class ForecastEdges extends Edges {
    private static final int[] NO_PROMISES = {MIN, -1, GIVEN, 39, 40, MAX};

    private ForecastEdges() {
    }

    static void go() {
        when();
        whenAboveTheLastTick();
        whenPromise();
        whenReturns();
        whenWrong();
        whenIllegal();
        whenNone();
        would();
        wouldTicks();
        wouldCalls();
        wouldLate();
        wouldReady();
        wouldReturns();
        wouldWrong();
        leastRoom();
        lateAlready();
        leastRoomTicks();
        leastRoomReturns();
        leastRoomWrong();
        leastRoomNone();
    }

    /** By the room 1, so many that are due in so many ticks. */
    private static Story crowd(int promises, int delay) {
        return wheel -> {
            wheel.set(0, 1);
            wheel.giveMany(promises, delay);
        };
    }

    // ---- promise 21

    private static void when() {
        sentence("21", "Tells when a promise would be called next, if only ticks passed");
        unchanged("in ring 0, behind ready ones", BUSY, 4, wheel -> wheel.when(WAITING));
        unchanged("ready", BUSY, 3, wheel -> wheel.when(READY));
        unchanged("in ring 1", BUSY, 20, wheel -> wheel.when(IN_RING_1));
        unchanged("in ring 2", BUSY, 300, wheel -> wheel.when(IN_RING_2));
        for (int number = 0; number < 7; number++) {
            int promise = number;
            answers("in a crowd", crowd(7, 5), 5 + promise, wheel -> wheel.when(promise));
        }
        Story broken = crowd(7, 5).then(wheel -> {
            wheel.breakOff(0);
            wheel.breakOff(3);
        });
        answers("broken ones are swept ahead of it", broken, 9, wheel -> wheel.when(6));
        Story repeated = NEW.then(wheel -> {
            wheel.give(4, 9, 2);
            wheel.pass(4);
        });
        answers("its next call", repeated, 13, wheel -> wheel.when(0));
        answers("not the one after it", NEW.then(wheel -> wheel.give(4, 1, 99)), 4, wheel -> wheel.when(0));
        Story looked = crowd(7, 5).then(wheel -> wheel.passTo(11));
        answers("as it comes", looked, 7, wheel -> wheel.count(5));
    }

    private static void whenAboveTheLastTick() {
        sentence("21", "(above 20000, too).");
        Story end = AT_THE_LAST_TICK.then(wheel -> {
            wheel.set(0, 1);
            wheel.give(1, 0, 0);
            wheel.give(511, 0, 0);
            wheel.give(511, 0, 0);
        });
        unchanged("the next tick", end, 20001, wheel -> wheel.when(0));
        unchanged("far above", end, 20511, wheel -> wheel.when(1));
        unchanged("farther", end, 20512, wheel -> wheel.when(2));
        Story before = NEW.then(wheel -> wheel.passTo(19999)).then(wheel -> wheel.giveMany(4, 1));
        unchanged("at it", before, 20000, wheel -> wheel.when(2));
        unchanged("just above", before, 20001, wheel -> wheel.when(3));
    }

    private static void whenPromise() {
        sentence("21", "`promise`: a promise");
        refused("none is given", NEW, INVALID, wheel -> wheel.when(0));
        answers("the first", FORTY, 1, wheel -> wheel.when(0));
        answers("the last", FORTY, 196, wheel -> wheel.when(39));
        refused("behind the last", FORTY, INVALID, wheel -> wheel.when(40));
        refused("-1", FORTY, INVALID, wheel -> wheel.when(-1));
    }

    private static void whenReturns() {
        sentence("21", "Returns the tick;");
        Story later = NEW.then(wheel -> {
            wheel.pass(100);
            wheel.give(1, 0, 0);
            wheel.give(70, 0, 0);
        });
        answers("not the distance", later, 101, wheel -> wheel.when(0));
        answers("not the distance", later, 170, wheel -> wheel.when(1));
        answers("not the due tick", crowd(2, 9), 10, wheel -> wheel.when(1));
    }

    private static void whenWrong() {
        sentence("21", "INVALID_ARGUMENT if there is no such promise;");
        for (int promise : NO_PROMISES) {
            refused("promise " + promise, BUSY, INVALID, wheel -> wheel.when(promise));
            refused("promise " + promise + ", none is given", NEW, INVALID, wheel -> wheel.when(promise));
        }
    }

    private static void whenIllegal() {
        sentence("21", "ILLEGAL_STATE if it is neither waiting nor ready;");
        refused("done", BUSY, ILLEGAL, wheel -> wheel.when(DONE));
        refused("broken in a slot", BUSY, ILLEGAL, wheel -> wheel.when(BROKEN_IN_SLOT));
        refused("broken in the queue", BUSY, ILLEGAL, wheel -> wheel.when(BROKEN_IN_QUEUE));
        refused("swept", BUSY, ILLEGAL, wheel -> wheel.when(SWEPT));
    }

    /** A delay is at most 511 and at most 39 are ahead, so there is a call within 550 ticks. */
    private static void whenNone() {
        sentence("21", "NONE if it would not within 600 ticks.");
        answers("the last of forty, as far as can be", crowd(40, 511), 550, wheel -> wheel.when(39));
        Story again = NEW.then(wheel -> {
            wheel.set(0, 1);
            for (int promise = 0; promise < 39; promise++) {
                wheel.give(511, 1, 99);
            }
            wheel.give(511, 0, 0);
        });
        answers("those ahead are repeated", again, 550, wheel -> wheel.when(39));
        Story behind = NEW.then(wheel -> {
            wheel.set(0, 1);
            for (int promise = 0; promise < 39; promise++) {
                wheel.give(1, 1, 99);
            }
            wheel.give(511, 0, 0);
        });
        answers("a queue that is never empty", behind, 549, wheel -> wheel.when(39));
    }

    // ---- promise 22

    private static void would() {
        sentence("22", "Tells how many calls there would be, if only ticks passed.");
        Story crowd = crowd(7, 5);
        for (int ticks = 1; ticks <= 13; ticks++) {
            int passing = ticks;
            int due = Math.max(0, Math.min(7, ticks - 4));
            unchanged("in " + ticks + " ticks", crowd, due, wheel -> wheel.would(passing, 0));
            answers("as it comes", crowd, due, wheel -> wheel.pass(passing));
        }
        answers("above the last tick, too", AT_THE_LAST_TICK.then(wheel -> wheel.giveMany(4, 511)), 4,
                wheel -> wheel.would(600, 0));
        unchanged("from a busy wheel", BUSY, 12, wheel -> wheel.would(600, 0));
    }

    private static void wouldTicks() {
        sentence("22", "`ticks`: 1 to 600");
        Story often = NEW.then(wheel -> {
            for (int promise = 0; promise <= 5; promise++) {
                wheel.give(1 + 100 * promise, 1, 99);
            }
        });
        refused("0", BUSY, INVALID, wheel -> wheel.would(0, 0));
        answers("1", often, 1, wheel -> wheel.would(1, 0));
        answers("599", often, 599, wheel -> wheel.would(599, 0));
        answers("600", often, 600, wheel -> wheel.would(600, 0));
        refused("601", BUSY, INVALID, wheel -> wheel.would(601, 0));
    }

    private static void wouldCalls() {
        sentence("22", "`what`: 0 for all calls,");
        answers("none", NEW, 0, wheel -> wheel.would(600, 0));
        answers("late and timely ones", crowd(7, 5), 7, wheel -> wheel.would(600, 0));
        answers("not those before", crowd(7, 5).then(wheel -> wheel.pass(7)), 4, wheel -> wheel.would(600, 0));
        answers("repetitions", NEW.then(wheel -> wheel.give(1, 1, 99)), 100, wheel -> wheel.would(600, 0));
        answers("no broken ones", crowd(7, 5).then(wheel -> wheel.breakOff(3)), 6,
                wheel -> wheel.would(600, 0));
    }

    private static void wouldLate() {
        sentence("22", "1 for late ones,");
        answers("none", NEW, 0, wheel -> wheel.would(600, 1));
        answers("the first is on time", crowd(7, 5), 0, wheel -> wheel.would(5, 1));
        answers("one", crowd(7, 5), 1, wheel -> wheel.would(6, 1));
        answers("all but the first", crowd(7, 5), 6, wheel -> wheel.would(600, 1));
        answers("not those before", crowd(7, 5).then(wheel -> wheel.pass(8)), 3, wheel -> wheel.would(600, 1));
        answers("late already", BUSY, 1, wheel -> wheel.would(1, 1));
    }

    private static void wouldReady() {
        sentence("22", "2 for the greatest number of ready ones at the end of one of these ticks");
        answers("none", NEW, 0, wheel -> wheel.would(600, 2));
        answers("none before", crowd(7, 5), 0, wheel -> wheel.would(4, 2));
        answers("one is called in the tick", crowd(7, 5), 6, wheel -> wheel.would(5, 2));
        answers("the greatest stays", crowd(7, 5), 6, wheel -> wheel.would(600, 2));
        Story now = crowd(7, 5).then(wheel -> wheel.pass(5));
        answers("not those that are ready now", now, 5, wheel -> wheel.would(1, 2));
        answers("no broken ones", now.then(wheel -> wheel.breakOff(6)), 4, wheel -> wheel.would(1, 2));
        Story two = crowd(3, 1).then(wheel -> wheel.giveMany(5, 9));
        answers("the first crowd", two, 2, wheel -> wheel.would(8, 2));
        answers("the second crowd is greater", two, 4, wheel -> wheel.would(9, 2));
        answers("thirty-nine", crowd(40, 511), 39, wheel -> wheel.would(600, 2));
        answers("not those that were ready once", crowd(7, 5).then(wheel -> wheel.pass(100)), 0,
                wheel -> wheel.would(600, 2));
    }

    private static void wouldReturns() {
        sentence("22", "Returns the number;");
        int[] due = {12, 1, 0};
        for (int part = 0; part <= 2; part++) {
            int what = part;
            unchanged("would(600, " + what + ")", BUSY, due[what], wheel -> wheel.would(600, what));
        }
    }

    private static void wouldWrong() {
        sentence("22", "INVALID_ARGUMENT if an argument is out of range.");
        for (int ticks : new int[] {MIN, -1, 0, 601, MAX}) {
            refused("ticks " + ticks, BUSY, INVALID, wheel -> wheel.would(ticks, 0));
            refused("ticks " + ticks + ", what 2", BUSY, INVALID, wheel -> wheel.would(ticks, 2));
        }
        for (int what : new int[] {MIN, -1, 3, 4, MAX}) {
            refused("what " + what, BUSY, INVALID, wheel -> wheel.would(1, what));
            refused("what " + what + ", 600 ticks", BUSY, INVALID, wheel -> wheel.would(600, what));
        }
    }

    // ---- promise 23

    private static void leastRoom() {
        sentence("23", "Finds the least room with which no call would be late, if only ticks passed");
        for (int promises = 1; promises <= 20; promises++) {
            Story crowd = crowd(promises, 5);
            answers("for " + promises + " at once", crowd, promises, wheel -> wheel.leastRoom(200));
            answers("as it comes", crowd.then(told(promises)), 0, wheel -> wheel.count(6));
            if (promises > 1) {
                Check.holds("less is too little", crowd.then(told(promises - 1)).told().count(6) > 0);
            }
        }
        unchanged("nothing changes", crowd(7, 5), 7, wheel -> wheel.leastRoom(200));
        answers("whatever the room is now", crowd(7, 5).then(wheel -> wheel.set(0, 20)), 7,
                wheel -> wheel.leastRoom(200));
        answers("broken ones are not called", crowd(7, 5).then(wheel -> wheel.breakOff(2)), 6,
                wheel -> wheel.leastRoom(200));
        answers("the greatest of two crowds", crowd(3, 5).then(wheel -> wheel.giveMany(6, 9)), 6,
                wheel -> wheel.leastRoom(200));
        Story often = NEW.then(wheel -> {
            wheel.give(1, 1, 99);
            wheel.give(2, 2, 99);
            wheel.give(6, 3, 99);
        });
        answers("repetitions meet at 6", often, 3, wheel -> wheel.leastRoom(200));
        answers("above the last tick, too", AT_THE_LAST_TICK.then(wheel -> wheel.giveMany(4, 199)), 4,
                wheel -> wheel.leastRoom(200));
    }

    private static Story told(int room) {
        return wheel -> {
            wheel.set(0, room);
            wheel.pass(200);
        };
    }

    private static void lateAlready() {
        sentence("23", "(one that is late already stays so by any room).");
        unchanged("a ready one is late in the next tick", BUSY, NONE, wheel -> wheel.leastRoom(1));
        Story one = NEW.then(wheel -> {
            wheel.set(0, 1);
            wheel.giveMany(2, 1);
            wheel.pass(1);
        });
        unchanged("late by one", one, NONE, wheel -> wheel.leastRoom(1));
        unchanged("in many ticks, too", one, NONE, wheel -> wheel.leastRoom(200));
        unchanged("broken, it is not called", one.then(wheel -> wheel.breakOff(1)), 1,
                wheel -> wheel.leastRoom(200));
        unchanged("called, it was late", one.then(wheel -> wheel.pass(1)), 1, wheel -> wheel.leastRoom(200));
    }

    private static void leastRoomTicks() {
        sentence("23", "`ticks`: 1 to 200");
        refused("0", BUSY, INVALID, wheel -> wheel.leastRoom(0));
        answers("1", crowd(2, 1), 1, wheel -> wheel.leastRoom(1));
        answers("2", crowd(2, 1), 2, wheel -> wheel.leastRoom(2));
        answers("199", crowd(2, 199), 1, wheel -> wheel.leastRoom(199));
        answers("200", crowd(2, 199), 2, wheel -> wheel.leastRoom(200));
        answers("200, due at the last of them", crowd(2, 200), 1, wheel -> wheel.leastRoom(200));
        refused("201", BUSY, INVALID, wheel -> wheel.leastRoom(201));
        refused("201", NEW, INVALID, wheel -> wheel.leastRoom(201));
    }

    private static void leastRoomReturns() {
        sentence("23", "Returns the room, 1 to 20;");
        unchanged("nothing is called", NEW, 1, wheel -> wheel.leastRoom(200));
        unchanged("one", crowd(1, 5), 1, wheel -> wheel.leastRoom(200));
        unchanged("twenty", crowd(20, 5), 20, wheel -> wheel.leastRoom(200));
    }

    private static void leastRoomWrong() {
        sentence("23", "INVALID_ARGUMENT if ticks is out of range;");
        for (int ticks : new int[] {MIN, -1, 0, 201, 600, MAX}) {
            refused("ticks " + ticks, NEW, INVALID, wheel -> wheel.leastRoom(ticks));
            refused("ticks " + ticks + ", there is none", BUSY, INVALID, wheel -> wheel.leastRoom(ticks));
        }
    }

    private static void leastRoomNone() {
        sentence("23", "NONE if there is none.");
        unchanged("twenty-one at once", crowd(21, 5), NONE, wheel -> wheel.leastRoom(200));
        unchanged("forty at once", crowd(40, 5), NONE, wheel -> wheel.leastRoom(200));
        unchanged("not yet", crowd(21, 5), 1, wheel -> wheel.leastRoom(5));
        unchanged("then", crowd(21, 5), NONE, wheel -> wheel.leastRoom(6));
        unchanged("one of them is broken", crowd(21, 5).then(wheel -> wheel.breakOff(20)), 20,
                wheel -> wheel.leastRoom(200));
    }
}
