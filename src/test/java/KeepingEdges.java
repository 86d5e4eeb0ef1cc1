import java.util.LinkedHashMap;
import java.util.Map;

/** Snapshots, undo and errors, and promises 8 to 10: each sentence has a test of its own. */
final class KeepingEdges extends Edges {
    /** No number is as before. */
    private static final Story CHANGES = wheel -> {
        wheel.sweep();
        wheel.move(WAITING, 77);
        wheel.giveMany(9, 4);
        wheel.give(4, 1, 50);
        wheel.giveMany(4, 60);
        wheel.pass(61);
        wheel.breakOff(IN_RING_2);
        wheel.set(0, 2);
        wheel.set(1, 9);
        wheel.set(2, 1);
    };

    private KeepingEdges() {
    }

    static void go() {
        twoSlots();
        snapshotKeeps();
        snapshotKeepsNot();
        restoredAsItWas();
        fiveStates();
        stateIs();
        everySuccessfulCall();
        sixthState();
        undoRestores();
        errorsChangeNothing();
        firstError();
        noneIsNoError();
        invalidArgument();
        illegalState();
        capacityExceeded();
        none();
        take();
        takeAction();
        takeSlot();
        takeReturns();
        takeWrong();
        restore();
        restoreAction();
        restoreSlot();
        restoreReturns();
        restoreWrong();
        restoreIllegal();
        undo();
        undoReturns();
        undoIllegal();
    }

    // ---- snapshots

    private static void twoSlots() {
        sentence("Snapshots", "There are two slots for snapshots, empty at first.");
        same("at first", new Counted().count(11), 0);
        refused("slot 0 is empty", NEW, ILLEGAL, wheel -> wheel.restore(0));
        refused("slot 1 is empty", NEW, ILLEGAL, wheel -> wheel.restore(1));
        Counted wheel = new Counted();
        wheel.pass(5);
        wheel.take(0);
        same("one", wheel.count(11), 1);
        wheel.pass(5);
        wheel.take(1);
        same("two", wheel.count(11), 2);
        same("each its own", wheel.restore(0), 5);
        same("each its own", wheel.restore(1), 10);
        refused("there is no third one", BUSY, INVALID, busy -> busy.take(2));
    }

    private static void snapshotKeeps() {
        sentence("Snapshots", "A snapshot keeps everything");
        for (int what = 0; what <= 16; what++) {
            boolean changed = BUSY.told().count(what) != BUSY.then(CHANGES).told().count(what);
            Check.holds("count(" + what + ") has changed", changed || what >= 11 && what <= 13);
        }
        for (int number = 0; number <= 1; number++) {
            int slot = number;
            Story back = BUSY.then(wheel -> wheel.take(slot)).then(CHANGES).then(wheel -> wheel.restore(slot));
            sameWheel("slot " + slot, BUSY, back);
            Story empty = NEW.then(wheel -> wheel.take(slot)).then(FORTY).then(wheel -> wheel.pass(99))
                    .then(wheel -> wheel.take(1 - slot)).then(wheel -> wheel.restore(slot));
            sameWheel("an empty wheel in slot " + slot, NEW, empty);
        }
        Story full = wheel -> {
            wheel.set(0, 1);
            wheel.giveMany(40, 511);
            wheel.passTo(515);
        };
        Story gone = full.then(wheel -> {
            wheel.take(0);
            wheel.pass(600);
            wheel.restore(0);
        });
        sameWheel("a long queue", full, gone);
    }

    private static void snapshotKeepsNot() {
        sentence("Snapshots", "but the text, the failure, the slots for snapshots and the history.");
        Counted wheel = new Counted();
        wheel.write("abc");
        wheel.take(0);
        wheel.write("de");
        wheel.run();
        wheel.pass(3);
        wheel.take(1);
        wheel.pass(3);
        same("restored", wheel.restore(0), 0);
        same("the text stays", wheel.count(13), 5);
        same("the failure stays", wheel.failure(0), 1);
        same("the other slot stays", wheel.count(11), 2);
        same("the history stays", wheel.count(12), 5);
        same("the other slot holds what it held", wheel.restore(1), 3);
        same("the text is what it was", wheel.clearText(), 5);
        wheel.restore(0);
        same("and is not brought back", wheel.count(13), 0);
        wheel.write("pass 0;");
        wheel.run();
        wheel.restore(1);
        same("the later failure stays", wheel.failure(0), 2);
    }

    private static void restoredAsItWas() {
        sentence("Snapshots", "To restore it makes all this as it was.");
        Story taken = BUSY.then(wheel -> wheel.take(0));
        Story once = taken.then(CHANGES).then(wheel -> wheel.restore(0));
        sameWheel("once", BUSY, once);
        sameWheel("twice", BUSY, once.then(CHANGES).then(wheel -> wheel.restore(0)));
        sameWheel("what comes then is as it would have been", BUSY.then(CHANGES), once.then(CHANGES));
        sameWheel("nothing has changed in between", BUSY, taken.then(wheel -> wheel.restore(0)));
    }

    // ---- undo

    private static void fiveStates() {
        sentence("Undo", "A history of at most 5 states is kept;");
        Counted wheel = new Counted();
        same("none at first", wheel.count(12), 0);
        for (int action = 1; action <= 20; action++) {
            wheel.pass(1);
            same("after " + action + " actions", wheel.count(12), Math.min(action, 5));
        }
        for (int left = 4; left >= 0; left--) {
            same("left", wheel.undo(), left);
        }
        same("no sixth one", wheel.undo(), ILLEGAL);
        same("five ticks back", wheel.count(0), 15);
    }

    private static void stateIs() {
        sentence("Undo", "a state is everything but the text, the failure and the history "
                + "(the snapshots belong to it).");
        alike("everything", BUSY, BUSY.then(wheel -> wheel.pass(500)).then(Counted::undo));
        Story three = BUSY.then(Counted::undo).then(Counted::undo);
        alike("by several actions", three, three.then(wheel -> {
            wheel.move(IN_RING_2, 9);
            wheel.set(2, 1);
            wheel.pass(99);
            wheel.undo();
            wheel.undo();
            wheel.undo();
        }));
        Counted wheel = new Counted();
        wheel.write("ab");
        wheel.pass(1);
        wheel.write("c");
        wheel.run();
        same("undone", wheel.undo(), 0);
        same("the text stays", wheel.count(13), 3);
        same("the failure stays", wheel.failure(0), 1);
        same("the history is not brought back", wheel.count(12), 0);
        snapshotsBelongToIt();
    }

    private static void snapshotsBelongToIt() {
        Counted wheel = new Counted();
        wheel.pass(1);
        wheel.take(0);
        wheel.pass(1);
        wheel.take(0);
        wheel.take(1);
        same("two", wheel.count(11), 2);
        wheel.undo();
        same("slot 1 is empty again", wheel.count(11), 1);
        same("slot 1 is empty again", wheel.restore(1), ILLEGAL);
        same("slot 0 is as before", wheel.restore(0), 2);
        wheel.undo();
        wheel.undo();
        same("slot 0 holds its older snapshot", wheel.restore(0), 1);
        wheel.undo();
        wheel.undo();
        wheel.undo();
        same("slot 0 is empty again", wheel.count(11), 0);
        same("slot 0 is empty again", wheel.restore(0), ILLEGAL);
    }

    private static Map<String, Story.Call> actions() {
        Map<String, Story.Call> actions = new LinkedHashMap<>();
        actions.put("give", wheel -> wheel.give(9, 9, 9));
        actions.put("breakOff", wheel -> wheel.breakOff(READY));
        actions.put("move", wheel -> wheel.move(WAITING, 5));
        actions.put("pass", wheel -> wheel.pass(50));
        actions.put("sweep", Counted::sweep);
        actions.put("set", wheel -> wheel.set(0, 4));
        actions.put("take", wheel -> wheel.take(0));
        actions.put("restore", wheel -> wheel.restore(1));
        return actions;
    }

    private static void everySuccessfulCall() {
        sentence("Undo", "Every successful call of a method that is called an action records "
                + "the state before it (also if nothing changes by it);");
        actions().forEach((name, call) -> action(name, BUSY, call));
        action("set to what it is", BUSY, wheel -> wheel.set(0, 1));
        action("move to where it is", BUSY, wheel -> wheel.move(IN_RING_2, 298));
        action("sweep without broken ones", NEW, Counted::sweep);
        Story taken = BUSY.then(Counted::undo).then(wheel -> wheel.take(0));
        action("take the same again", taken, wheel -> wheel.take(0));
        action("restore what stands", taken, wheel -> wheel.restore(0));
        Story emptied = BUSY.then(Counted::clearText);
        action("run without commands", emptied, Counted::run);
        action("run with commands", emptied, wheel -> wheel.runs("pass 9;sweep;"));
        noActions();
    }

    /** Also the calls that look or forecast, and those of the text. */
    private static void noActions() {
        Story story = BUSY.then(wheel -> {
            wheel.undo();
            wheel.undo();
        });
        unchanged("count", story, 2, wheel -> wheel.count(12));
        unchanged("failure", story, 7, wheel -> wheel.failure(1));
        unchanged("promise", story, 4, wheel -> wheel.promise(WAITING, DUE));
        unchanged("slot", story, 2, wheel -> wheel.slot(1, 2, 0));
        unchanged("stands", story, BROKEN_IN_SLOT, wheel -> wheel.stands(1, 2, 1));
        unchanged("call", story, 2, wheel -> wheel.call(0, 2));
        unchanged("next", story, WAITING, wheel -> wheel.next(1, 0));
        unchanged("when", story, 4, wheel -> wheel.when(BROKEN_IN_QUEUE));
        unchanged("would", story, 1, wheel -> wheel.would(1, 0));
        unchanged("leastRoom", story, NONE, wheel -> wheel.leastRoom(1));
        same("append", story.then(wheel -> wheel.append('a')).told().count(12), 2);
        same("clearText", story.then(Counted::clearText).told().count(12), 2);
        same("a failing run", story.then(Counted::run).told().count(12), 2);
        same("undo takes one", story.then(Counted::undo).told().count(12), 1);
    }

    private static void sixthState() {
        sentence("Undo", "when a sixth one is recorded, the oldest one is dropped.");
        for (int number = 1; number <= 13; number++) {
            int given = number;
            Counted wheel = NEW.then(made -> made.giveMany(given, 9)).told();
            int kept = Math.min(given, 5);
            for (int step = 1; step <= kept; step++) {
                same("left of " + given, wheel.undo(), kept - step);
                same("given then", wheel.count(1), given - step);
            }
            same("older ones are dropped", wheel.undo(), ILLEGAL);
            same("given still", wheel.count(1), given - kept);
        }
        Counted failing = NEW.then(made -> made.giveMany(5, 9)).told();
        failing.give(0, 0, 0);
        failing.runs("give 1 0 0;x");
        for (int step = 0; step < 5; step++) {
            failing.undo();
        }
        same("an error drops none", failing.count(1), 0);
    }

    private static void undoRestores() {
        sentence("Undo", "undo() removes the latest state from the history and restores it.");
        Counted wheel = new Counted();
        wheel.give(9, 0, 0);
        wheel.pass(3);
        wheel.set(0, 7);
        wheel.undo();
        same("the latest action alone", wheel.count(14), 3);
        same("the one before it stands", wheel.count(0), 3);
        wheel.undo();
        same("then the one before it", wheel.count(0), 0);
        same("given", wheel.count(1), 1);
        wheel.pass(5);
        same("another action", wheel.count(12), 2);
        wheel.undo();
        same("is undone by itself", wheel.count(0), 0);
        wheel.undo();
        same("then the first", wheel.count(1), 0);
        same("nothing is left", wheel.undo(), ILLEGAL);
    }

    // ---- errors

    private static void errorsChangeNothing() {
        sentence("Errors", "A call that returns an error code changes nothing "
                + "(a failure of a program is kept, however).");
        Story late = BUSY.then(wheel -> {
            wheel.passTo(20000);
            wheel.give(500, 0, 0);
        });
        refused("give", late, INVALID, wheel -> wheel.give(0, 0, 0));
        refused("give when 40 are given", FORTY, FULL, wheel -> wheel.give(1, 0, 0));
        refused("breakOff", BUSY, INVALID, wheel -> wheel.breakOff(GIVEN));
        refused("breakOff", late, ILLEGAL, wheel -> wheel.breakOff(SWEPT));
        refused("move", BUSY, INVALID, wheel -> wheel.move(WAITING, 0));
        refused("move", BUSY, ILLEGAL, wheel -> wheel.move(READY, 1));
        refused("pass", BUSY, INVALID, wheel -> wheel.pass(0));
        refused("pass", late, FULL, wheel -> wheel.pass(1));
        refused("set", BUSY, INVALID, wheel -> wheel.set(0, 21));
        refused("take", BUSY, INVALID, wheel -> wheel.take(2));
        refused("restore", BUSY, INVALID, wheel -> wheel.restore(2));
        refused("restore", BUSY, ILLEGAL, wheel -> wheel.restore(0));
        refused("undo", NEW, ILLEGAL, Counted::undo);
        refused("append", BUSY, INVALID, wheel -> wheel.append(0));
        refused("append", LONG_TEXT, FULL, wheel -> wheel.append('a'));
        refused("a failing run keeps the same failure", BUSY, -1007, Counted::run);
        Story program = BUSY.then(Counted::clearText).then(wheel -> wheel.write("break 1;pass 0;"));
        Story ran = program.then(Counted::run);
        sameWheel("a failing run changes nothing", program, ran);
        same("but its failure is kept", program.told().failure(0), 1);
        same("but its failure is kept", ran.told().failure(0), 2);
        same("no state is recorded", ran.told().count(12), KEPT);
        same("the text stays", ran.told().count(13), 15);
    }

    private static void firstError() {
        sentence("Errors", "If several error conditions apply, the method returns the one "
                + "that its description lists first;");
        refused("give: wrong before full", FORTY, INVALID, wheel -> wheel.give(0, 0, 0));
        refused("move: wrong delay before its state", BUSY, INVALID, wheel -> wheel.move(DONE, 512));
        refused("pass: wrong before above 20000", AT_THE_LAST_TICK, INVALID, wheel -> wheel.pass(601));
        refused("restore: wrong before empty", NEW, INVALID, wheel -> wheel.restore(2));
        refused("append: wrong before full", LONG_TEXT, INVALID, wheel -> wheel.append(256));
        refused("breakOff: no such promise", NEW, INVALID, wheel -> wheel.breakOff(0));
        refused("when: no such promise", NEW, INVALID, wheel -> wheel.when(0));
    }

    private static void noneIsNoError() {
        sentence("Errors", "NONE is no error, and it is returned only if no error condition applies.");
        refused("failure, none yet", NEW, INVALID, wheel -> wheel.failure(4));
        refused("failure, none yet", NEW, INVALID, wheel -> wheel.failure(-1));
        refused("promise in no slot", BUSY, INVALID, wheel -> wheel.promise(DONE, 9));
        refused("slot without promises", NEW, INVALID, wheel -> wheel.slot(0, 8, 2));
        refused("stands, nobody there", NEW, INVALID, wheel -> wheel.stands(0, 0, -1));
        refused("stands, nobody there", NEW, INVALID, wheel -> wheel.stands(3, 1, 0));
        refused("call, none yet", NEW, INVALID, wheel -> wheel.call(12, 0));
        refused("call, none yet", NEW, INVALID, wheel -> wheel.call(0, 3));
        refused("next, nobody waits", NEW, INVALID, wheel -> wheel.next(2, 0));
        refused("next, nobody waits", NEW, INVALID, wheel -> wheel.next(0, 2));
        refused("leastRoom, there is none", BUSY, INVALID, wheel -> wheel.leastRoom(201));
        unchanged("leastRoom, there is none", BUSY, NONE, wheel -> wheel.leastRoom(200));
        unchanged("failure, none yet", NEW, NONE, wheel -> wheel.failure(3));
        unchanged("call, none yet", NEW, NONE, wheel -> wheel.call(11, 2));
        Story kept = BUSY.then(wheel -> wheel.runs("x"));
        unchanged("a failure's part may be NONE", kept, NONE, wheel -> wheel.failure(3));
    }

    private static void invalidArgument() {
        sentence("Errors", "The constants: `INVALID_ARGUMENT = -1`: An argument is out of range, "
                + "or names something that does not exist.");
        same("the constant", PromiseWheel.INVALID_ARGUMENT, -1);
        refused("out of range", BUSY, -1, wheel -> wheel.pass(601));
        refused("does not exist", BUSY, -1, wheel -> wheel.promise(GIVEN, 0));
    }

    private static void illegalState() {
        sentence("Errors", "`ILLEGAL_STATE = -2`: The call is not possible in the present state.");
        same("the constant", PromiseWheel.ILLEGAL_STATE, -2);
        refused("not in this state", BUSY, -2, wheel -> wheel.restore(0));
    }

    private static void capacityExceeded() {
        sentence("Errors", "`CAPACITY_EXCEEDED = -3`: There is no room.");
        same("the constant", PromiseWheel.CAPACITY_EXCEEDED, -3);
        refused("no room", LONG_TEXT, -3, wheel -> wheel.append(' '));
    }

    private static void none() {
        sentence("Errors", "`NONE = -9`: There is no such value.");
        same("the constant", PromiseWheel.NONE, -9);
        unchanged("no such value", NEW, -9, wheel -> wheel.next(0, 1));
    }

    // ---- promise 8

    private static void take() {
        sentence("8", "Takes a snapshot, in place of one that is there.");
        Counted wheel = new Counted();
        wheel.pass(4);
        wheel.take(0);
        wheel.pass(3);
        wheel.take(0);
        same("still one", wheel.count(11), 1);
        wheel.pass(2);
        same("the later one", wheel.restore(0), 7);
        Story again = BUSY.then(CHANGES).then(busy -> busy.take(1)).then(busy -> busy.pass(99))
                .then(busy -> busy.restore(1));
        sameWheel("all of it is replaced", BUSY.then(CHANGES), again);
    }

    private static void takeAction() {
        sentence("8", "This is an action.");
        action("into an empty slot", BUSY, wheel -> wheel.take(0));
        action("in place of another", BUSY, wheel -> wheel.take(1));
        action("of an empty wheel", NEW, wheel -> wheel.take(1));
    }

    private static void takeSlot() {
        sentence("8", "`slot`: 0 or 1");
        refused("-1", BUSY, INVALID, wheel -> wheel.take(-1));
        answers("0", BUSY, 2, wheel -> wheel.take(0));
        answers("1", BUSY, 2, wheel -> wheel.take(1));
        refused("2", BUSY, INVALID, wheel -> wheel.take(2));
    }

    private static void takeReturns() {
        sentence("8", "Returns the present tick;");
        answers("at first", NEW, 0, wheel -> wheel.take(0));
        answers("at the last tick", AT_THE_LAST_TICK, 20000, wheel -> wheel.take(1));
        answers("not that of the older snapshot", BUSY.then(wheel -> wheel.pass(7)), 9, wheel -> wheel.take(1));
    }

    private static void takeWrong() {
        sentence("8", "INVALID_ARGUMENT if slot is out of range.");
        for (int slot : new int[] {MIN, -1, 2, 3, MAX}) {
            refused("slot " + slot, BUSY, INVALID, wheel -> wheel.take(slot));
            refused("slot " + slot, NEW, INVALID, wheel -> wheel.take(slot));
        }
    }

    // ---- promise 9

    private static void restore() {
        sentence("9", "Restores a snapshot, which stays.");
        Story restored = BUSY.then(wheel -> wheel.restore(1));
        same("it stays", restored.told().count(11), 1);
        Story again = restored.then(CHANGES).then(wheel -> wheel.restore(1));
        sameWheel("it stays as it was", restored, again);
        same("at its tick", again.told().count(0), 1);
    }

    private static void restoreAction() {
        sentence("9", "This is an action.");
        action("restore", BUSY, wheel -> wheel.restore(1));
        Story taken = BUSY.then(Counted::undo).then(wheel -> wheel.take(0));
        action("what stands anyhow", taken, wheel -> wheel.restore(0));
    }

    private static void restoreSlot() {
        sentence("9", "`slot`: 0 or 1");
        Story both = BUSY.then(wheel -> wheel.take(0));
        refused("-1", both, INVALID, wheel -> wheel.restore(-1));
        answers("0", both, 2, wheel -> wheel.restore(0));
        answers("1", both, 1, wheel -> wheel.restore(1));
        refused("2", both, INVALID, wheel -> wheel.restore(2));
    }

    private static void restoreReturns() {
        sentence("9", "Returns the present tick then;");
        answers("an earlier one", BUSY.then(wheel -> wheel.pass(9)), 1, wheel -> wheel.restore(1));
        Story later = wheel -> {
            wheel.take(0);
            wheel.passTo(20000);
            wheel.take(1);
            wheel.restore(0);
        };
        answers("a later one", later, 20000, wheel -> wheel.restore(1));
        answers("tick 0", later, 0, wheel -> wheel.restore(0));
    }

    private static void restoreWrong() {
        sentence("9", "INVALID_ARGUMENT if slot is out of range;");
        for (int slot : new int[] {MIN, -1, 2, 3, MAX}) {
            refused("slot " + slot, BUSY, INVALID, wheel -> wheel.restore(slot));
            refused("slot " + slot + " when all are empty", NEW, INVALID, wheel -> wheel.restore(slot));
        }
    }

    private static void restoreIllegal() {
        sentence("9", "ILLEGAL_STATE if the slot is empty.");
        refused("slot 0", NEW, ILLEGAL, wheel -> wheel.restore(0));
        refused("slot 1", NEW, ILLEGAL, wheel -> wheel.restore(1));
        refused("slot 0 beside a full one", BUSY, ILLEGAL, wheel -> wheel.restore(0));
        refused("slot 1 beside a full one", NEW.then(wheel -> wheel.take(0)), ILLEGAL,
                wheel -> wheel.restore(1));
        refused("emptied by undo()", NEW.then(wheel -> wheel.take(0)).then(Counted::undo), ILLEGAL,
                wheel -> wheel.restore(0));
    }

    // ---- promise 10

    private static void undo() {
        sentence("10", "Removes the latest state from the history and restores it.");
        actions().forEach((name, call) ->
                alike(name, BUSY, BUSY.then(call::of).then(Counted::undo)));
        Story two = BUSY.then(Counted::undo);
        alike("two steps", two, two.then(wheel -> {
            wheel.pass(9);
            wheel.pass(600);
            wheel.undo();
            wheel.undo();
        }));
    }

    private static void undoReturns() {
        sentence("10", "Returns the number of states that are left in the history;");
        Counted wheel = BUSY.told();
        for (int left = KEPT - 1; left >= 0; left--) {
            same("left", wheel.undo(), left);
            same("counted, too", wheel.count(12), left);
        }
        answers("one of one", NEW.then(made -> made.pass(1)), 0, Counted::undo);
        answers("one of five", FORTY, 4, Counted::undo);
    }

    private static void undoIllegal() {
        sentence("10", "ILLEGAL_STATE if it is empty.");
        refused("at first", NEW, ILLEGAL, Counted::undo);
        refused("after an error", NEW.then(wheel -> wheel.pass(0)), ILLEGAL, Counted::undo);
        refused("after no action", NEW.then(wheel -> wheel.append('a')), ILLEGAL, Counted::undo);
        refused("when all are removed", NEW.then(wheel -> {
            wheel.pass(1);
            wheel.undo();
        }), ILLEGAL, Counted::undo);
        refused("when five of more are removed", NEW.then(wheel -> {
            wheel.giveMany(9, 5);
            for (int step = 0; step < 5; step++) {
                wheel.undo();
            }
        }), ILLEGAL, Counted::undo);
    }
}
