/** The terms up to the rings: each sentence has a test of its own. */
final class TermsEdges extends Edges {
    private TermsEdges() {
    }

    static void go() {
        calls();
        firstTick();
        mostPromises();
        numbers();
        parts();
        whereTheyStand();
        brokenAndSwept();
        threeRings();
        oneBehindAnother();
        behindThoseThatStandThere();
        distance();
        ring0();
        ring1();
        ring2();
    }

    private static void calls() {
        sentence("What it is", "An object is used for at most 512 calls after it has been made");
        Counted slow = new Counted();
        Counted fast = new Counted();
        for (int promise = 0; promise < 40; promise++) {
            slow.give(1, 1 + promise, 99);
            fast.give(1, 1 + promise, 99);
        }
        for (int tick = 0; tick < 469; tick++) {
            slow.pass(1);
        }
        fast.pass(469);
        same("the 510th call", slow.count(5), fast.count(5));
        same("the 511th call", slow.promise(39, LATENESS), fast.promise(39, LATENESS));
        same("the 512th call", slow.call(11, 0), fast.call(11, 0));
    }

    private static void firstTick() {
        sentence("Terms", "All numbers are whole. Times are ticks; the present tick is 0 at first.");
        same("the present tick", new Counted().count(0), 0);
        same("a snapshot's tick", new Counted().take(0), 0);
        Counted wheel = new Counted();
        wheel.give(1, 0, 0);
        same("a due tick is counted from 0 on", wheel.promise(0, DUE), 1);
    }

    private static void mostPromises() {
        sentence("Promises", "There are at most 40 promises");
        same("39 and one more", NEW.then(wheel -> wheel.giveMany(39, 9)).told().give(9, 0, 0), 39);
        same("40", FORTY.told().count(1), 40);
        refused("the 41st", FORTY, FULL, wheel -> wheel.give(1, 0, 0));
        refused("the 41st when all are done", FORTY.then(wheel -> wheel.pass(600)), FULL,
                wheel -> wheel.give(1, 0, 0));
        Story swept = FORTY.then(wheel -> {
            for (int promise = 0; promise < 40; promise++) {
                wheel.breakOff(promise);
            }
            wheel.sweep();
        });
        refused("the 41st when all are swept", swept, FULL, wheel -> wheel.give(1, 0, 0));
        same("undone, its place is free", FORTY.then(Counted::undo).told().give(3, 0, 0), 39);
        Story restored = wheel -> {
            wheel.giveMany(7, 9);
            wheel.take(0);
            wheel.giveMany(33, 9);
            wheel.restore(0);
        };
        same("restored, their places are free", restored.told().give(3, 0, 0), 7);
    }

    private static void numbers() {
        sentence("Promises", "numbered from 0 in the order in which they were given.");
        Counted wheel = new Counted();
        for (int promise = 0; promise < 40; promise++) {
            same("number", wheel.give(511 - promise, 0, 0), promise);
        }
        for (int promise = 0; promise < 40; promise++) {
            same("the due tick of " + promise, wheel.promise(promise, DUE), 511 - promise);
        }
        same("40 is no number", wheel.promise(40, DUE), INVALID);
        same("-1 is no number", wheel.promise(-1, DUE), INVALID);
    }

    private static void parts() {
        sentence("Promises", "A promise has a due tick, a period (0 if it is not repeated), "
                + "and a number of repetitions that are left.");
        Counted wheel = new Counted();
        wheel.give(5, 0, 0);
        wheel.give(9, 511, 99);
        tells("not repeated", wheel, 0, 0, 5, 0, 0);
        tells("repeated", wheel, 1, 0, 9, 511, 99);
    }

    private static void whereTheyStand() {
        sentence("Promises", "Its state is 0 waiting (it stands in a slot), "
                + "1 ready (it stands in the queue), 2 done,");
        Counted wheel = BUSY.told();
        tells("waiting", wheel, WAITING, 0, 4, 3, 8, 0, 4, 0);
        same("it stands in a slot", wheel.stands(0, 4, 0), WAITING);
        tells("ready", wheel, READY, 1, 1, 0, 0, NONE, NONE, 0);
        same("it stands in the queue", wheel.stands(3, 0, 0), READY);
        tells("done", wheel, DONE, 2, 1, 0, 0, NONE, NONE, NONE);
    }

    private static void brokenAndSwept() {
        sentence("Promises", "3 broken, but standing (in a slot or in the queue), 4 broken and swept.");
        Counted wheel = BUSY.told();
        tells("broken in a slot", wheel, BROKEN_IN_SLOT, 3, 20, 0, 0, 1, 2, 1);
        same("it stands in a slot", wheel.stands(1, 2, 1), BROKEN_IN_SLOT);
        tells("broken in the queue", wheel, BROKEN_IN_QUEUE, 3, 1, 0, 0, NONE, NONE, 1);
        same("it stands in the queue", wheel.stands(3, 0, 1), BROKEN_IN_QUEUE);
        tells("swept", wheel, SWEPT, 4, 5, 0, 0, NONE, NONE, NONE);
        same("it has left its slot", wheel.slot(0, 5, 0), 0);
        wheel.sweep();
        tells("swept from a slot", wheel, BROKEN_IN_SLOT, 4, 20, 0, 0, NONE, NONE, NONE);
        tells("swept from the queue", wheel, BROKEN_IN_QUEUE, 4, 1, 0, 0, NONE, NONE, NONE);
    }

    private static void threeRings() {
        sentence("Rings", "There are 3 rings, 0 to 2, of 8 slots each, 0 to 7.");
        Counted wheel = new Counted();
        wheel.pass(1);
        int given = 0;
        for (int ring = 0; ring < 3; ring++) {
            int width = 1 << (3 * ring);
            for (int slot = 0; slot < 8; slot++) {
                same("an empty slot", wheel.slot(ring, slot, 0), 0);
            }
            // From tick 1 on: what is one behind a multiple is far enough away, and the last one is 0 again.
            for (int step = ring == 0 ? 2 : 1; step <= 8; step++) {
                int due = step * width + (ring > 0 && step < 8 ? 1 : 0);
                same("given", wheel.give(due - 1, 0, 0), given);
                tells("in its slot", wheel, given, 0, due, 0, 0, ring, step % 8, 0);
                given++;
            }
        }
        refused("ring 3", BUSY, INVALID, busy -> busy.slot(3, 0, 0));
        refused("ring -1", BUSY, INVALID, busy -> busy.slot(-1, 0, 0));
        refused("slot 8", BUSY, INVALID, busy -> busy.slot(2, 8, 0));
        refused("slot -1", BUSY, INVALID, busy -> busy.slot(0, -1, 0));
    }

    private static void oneBehindAnother() {
        sentence("Rings", "In each slot promises stand one behind another.");
        Counted wheel = FORTY.told();
        line("ring 0", wheel, 0, 6, 1);
        line("ring 1", wheel, 1, 1, 2);
        line("ring 1", wheel, 1, 2, 3, 4);
        line("ring 1", wheel, 1, 7, 11, 12);
        line("ring 2", wheel, 2, 1, 13, 14, 15, 16, 17, 18, 19, 20, 21, 22, 23, 24, 25);
        Counted full = new Counted();
        full.giveMany(40, 511);
        same("all in one slot", full.slot(2, 7, 0), 40);
        same("the last of all", full.stands(2, 7, 39), 39);
        same("nobody behind", full.stands(2, 7, 40), NONE);
    }

    private static void behindThoseThatStandThere() {
        sentence("Rings", "A promise is put into a slot, behind those that stand there,");
        Counted wheel = new Counted();
        wheel.giveMany(4, 20);
        wheel.breakOff(3);
        wheel.give(16, 0, 0);
        line("behind a broken one, by no due tick", wheel, 1, 2, 0, 1, 2, 3, 4);
        wheel.move(0, 23);
        line("moved to the end of the same slot", wheel, 1, 2, 1, 2, 3, 4, 0);
        wheel.move(0, 9);
        wheel.give(20, 0, 0);
        line("the last one has left", wheel, 1, 2, 1, 2, 3, 4, 5);
        wheel.sweep();
        wheel.give(20, 0, 0);
        line("a broken one was swept", wheel, 1, 2, 1, 2, 4, 5, 6);
    }

    private static void distance() {
        sentence("Rings", "by its distance, which is its due tick less the present one:");
        isPutInto(100, 7, 0, 3);
        isPutInto(100, 8, 1, 5);
        isPutInto(100, 63, 1, 4);
        isPutInto(100, 64, 2, 2);
        Counted wheel = new Counted();
        wheel.give(511, 0, 0);
        wheel.pass(450);
        wheel.give(61, 0, 0);
        tells("due at the same tick, but farther when it was given", wheel, 0, 0, 511, 0, 0, 1, 7, 0);
        wheel.give(511, 0, 0);
        wheel.move(0, 61);
        line("moved behind the nearer one", wheel, 1, 7, 1, 0);
    }

    private static void isPutInto(int present, int delay, int ring, int slot) {
        Counted wheel = new Counted();
        wheel.passTo(present);
        wheel.give(delay, 0, 0);
        String what = "delay " + delay + " at tick " + present;
        tells(what, wheel, 0, 0, present + delay, 0, 0, ring, slot, 0);
        line(what, wheel, ring, slot, 0);
        same(what + ", how many there", wheel.slot(ring, slot, 0), 1);
    }

    private static void ring0() {
        sentence("Rings", "if this is less than 8, into the ring 0 and the slot "
                + "that is the due tick left over by 8;");
        isPutInto(0, 1, 0, 1);
        isPutInto(0, 7, 0, 7);
        isPutInto(1, 7, 0, 0);
        isPutInto(7, 1, 0, 0);
        isPutInto(7, 7, 0, 6);
        isPutInto(8, 7, 0, 7);
        isPutInto(63, 1, 0, 0);
        isPutInto(63, 7, 0, 6);
        isPutInto(20000, 1, 0, 1);
        isPutInto(20000, 7, 0, 7);
        isPutInto(0, 8, 1, 1);
        isPutInto(20000, 8, 1, 5);
    }

    private static void ring1() {
        sentence("Rings", "if it is 8 to 63, into the ring 1 and the slot "
                + "that is the due tick divided by 8 and rounded down, left over by 8;");
        isPutInto(0, 8, 1, 1);
        isPutInto(0, 15, 1, 1);
        isPutInto(0, 16, 1, 2);
        isPutInto(0, 63, 1, 7);
        isPutInto(1, 63, 1, 0);
        isPutInto(7, 8, 1, 1);
        isPutInto(8, 63, 1, 0);
        isPutInto(63, 8, 1, 0);
        isPutInto(63, 63, 1, 7);
        isPutInto(20000, 8, 1, 5);
        isPutInto(20000, 63, 1, 3);
        isPutInto(0, 7, 0, 7);
        isPutInto(0, 64, 2, 1);
        isPutInto(20000, 64, 2, 1);
    }

    private static void ring2() {
        sentence("Rings", "otherwise into the ring 2 and the slot "
                + "that is the due tick divided by 64 and rounded down, left over by 8.");
        isPutInto(0, 64, 2, 1);
        isPutInto(0, 127, 2, 1);
        isPutInto(0, 128, 2, 2);
        isPutInto(0, 511, 2, 7);
        isPutInto(1, 64, 2, 1);
        isPutInto(1, 511, 2, 0);
        isPutInto(63, 64, 2, 1);
        isPutInto(64, 64, 2, 2);
        isPutInto(65, 511, 2, 1);
        isPutInto(511, 64, 2, 0);
        isPutInto(20000, 64, 2, 1);
        isPutInto(20000, 511, 2, 0);
        isPutInto(0, 63, 1, 7);
    }
}
