import java.util.HashMap;
import java.util.Map;

/** What the tests of single sentences share. */
abstract class Edges {
    static final int INVALID = -1;
    static final int ILLEGAL = -2;
    static final int FULL = -3;
    static final int NONE = -9;
    static final int MIN = Integer.MIN_VALUE;
    static final int MAX = Integer.MAX_VALUE;

    static final int STATE = 0;
    static final int DUE = 1;
    static final int PERIOD = 2;
    static final int LEFT = 3;
    static final int RING = 4;
    static final int SLOT = 5;
    static final int PLACE = 6;
    static final int CALLED = 7;
    static final int LATENESS = 8;

    /** The promise that each of these states has in a busy wheel. */
    static final int DONE = 0;
    static final int WAITING = 1;
    static final int READY = 2;
    static final int BROKEN_IN_QUEUE = 3;
    static final int IN_RING_1 = 4;
    static final int BROKEN_IN_SLOT = 5;
    static final int IN_RING_2 = 6;
    static final int SWEPT = 7;

    static final Story NEW = wheel -> { };

    /**
     * At tick 2: a promise in each state, a snapshot in slot 1, a failure, a text, four states kept. It
     * ends with an action, so that no row of the history holds what stands, by chance.
     */
    static final Story BUSY = wheel -> {
        wheel.set(0, 1);
        wheel.give(1, 0, 0);
        wheel.give(1, 3, 9);
        wheel.give(1, 0, 0);
        wheel.give(1, 0, 0);
        wheel.give(20, 0, 0);
        wheel.give(20, 0, 0);
        wheel.give(300, 0, 0);
        wheel.give(5, 0, 0);
        wheel.breakOff(SWEPT);
        wheel.sweep();
        wheel.pass(1);
        wheel.take(1);
        wheel.pass(1);
        wheel.runs("pass 1;x");
        wheel.breakOff(BROKEN_IN_SLOT);
        wheel.set(1, 9);
        wheel.set(2, 1);
        wheel.undo();
        wheel.undo();
        wheel.breakOff(BROKEN_IN_QUEUE);
    };
    static final int GIVEN = 8;
    static final int KEPT = 4;

    static final Story FORTY = wheel -> {
        for (int promise = 0; promise < 40; promise++) {
            wheel.give(1 + 5 * promise, 0, 0);
        }
    };
    static final Story AT_THE_LAST_TICK = wheel -> wheel.passTo(20000);
    static final Story LONG_TEXT = wheel -> {
        for (int command = 0; command < 20; command++) {
            wheel.write("sweep;");
        }
    };

    private static final Map<Story, int[][]> SEEN = new HashMap<>();
    private static Document document;
    private static int answersBefore;

    static void begin(Document readDocument) {
        document = readDocument;
    }

    /** What follows, until the next sentence, is the test of this one. */
    static void sentence(String section, String words) {
        endSentence();
        Check.about(section + ": " + words);
        Check.holds("these words stand in the document", document.name(section, words));
        answersBefore = Check.answers();
    }

    static void endSentence() {
        if (answersBefore > 0) {
            Check.holds("the sentence is tested", Check.answers() > answersBefore);
        }
        Check.about("");
    }

    static void same(String what, int got, int due) {
        Check.same(what, got, due);
    }

    /** The promise's parts from the state on, as many as are told. */
    static void tells(String what, Counted wheel, int promise, int... due) {
        for (int part = 0; part < due.length; part++) {
            same(what + ", promise(" + promise + ", " + part + ")", wheel.promise(promise, part), due[part]);
        }
    }

    /** These stand there, from the front on, and nobody else. */
    static void line(String what, Counted wheel, int ring, int slot, int... promises) {
        for (int place = 0; place < promises.length; place++) {
            same(what + ", place " + place, wheel.stands(ring, slot, place), promises[place]);
        }
        same(what + ", behind them", wheel.stands(ring, slot, promises.length), NONE);
    }

    static void answers(String what, Story before, int due, Story.Call call) {
        same(what, call.of(before.told()), due);
    }

    /** The call is answered so, and nothing has changed by it: neither what stands nor what is kept. */
    static void unchanged(String what, Story before, int due, Story.Call call) {
        answers(what, before, due, call);
        alike(what + " changes nothing", before, before.then(call::of));
    }

    /** The call is an error with this code. */
    static void refused(String what, Story before, int code, Story.Call call) {
        unchanged(what, before, code, call);
    }

    /** The call succeeds and one state more is kept, which undo() brings back. */
    static void action(String what, Story before, Story.Call call) {
        Counted wheel = before.told();
        int kept = wheel.count(12);
        Check.holds(what + " succeeds", call.of(wheel) >= 0);
        same(what + " is recorded", wheel.count(12), kept + 1);
        alike(what + " is undone", before, before.then(call::of).then(Counted::undo));
    }

    /** After both stories the same can be seen, now and by all that is kept. */
    static void alike(String what, Story one, Story other) {
        int[][] seen = SEEN.computeIfAbsent(one, Looks::deep);
        int[][] others = Looks.deep(other);
        for (int at = 0; at < seen.length; at++) {
            String difference = Looks.difference(seen[at], others[at]);
            Check.holds(what + " (" + at + ": " + difference + ")", difference.isEmpty());
        }
    }

    /** The same wheel, whatever else is kept beside it. */
    static void sameWheel(String what, Story one, Story other) {
        String difference = Looks.difference(Looks.atTheWheel(one), Looks.atTheWheel(other));
        Check.holds(what + " (" + difference + ")", difference.isEmpty());
    }
}
