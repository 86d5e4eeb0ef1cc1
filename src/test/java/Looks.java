import java.util.ArrayList;
import java.util.List;

/** What can be seen after a story, asked of as many twins as the 512 calls of each make needful. */
final class Looks {
    private static final List<String> NAMES = new ArrayList<>();
    private static final List<Story.Call> QUESTIONS = new ArrayList<>();
    private static int ofTheWheel;

    static {
        askOfTheWheel();
        ofTheWheel = QUESTIONS.size();
        askOfTheRest();
    }

    private Looks() {
    }

    /** All that a snapshot keeps. */
    static int[] atTheWheel(Story story) {
        return ask(story, ofTheWheel);
    }

    static int[] atAll(Story story) {
        return ask(story, QUESTIONS.size());
    }

    /** Not only what stands now, but also what the history, the snapshots and the text hold. */
    static int[][] deep(Story story) {
        List<int[]> seen = new ArrayList<>();
        seen.add(atAll(story));
        Story back = story;
        for (int step = 0; step < 6; step++) {
            back = back.then(Counted::undo);
            seen.add(atAll(back));
        }
        for (int slot = 0; slot < 2; slot++) {
            int which = slot;
            seen.add(atAll(story.then(wheel -> wheel.restore(which))));
        }
        seen.add(atAll(story.then(Counted::run)));
        return seen.toArray(new int[0][]);
    }

    /** Tells the first difference, or nothing if there is none. */
    static String difference(int[] some, int[] others) {
        for (int at = 0; at < some.length; at++) {
            if (some[at] != others[at]) {
                return NAMES.get(at) + " is " + others[at] + ", not " + some[at];
            }
        }
        return "";
    }

    private static int[] ask(Story story, int questions) {
        int[] seen = new int[questions];
        Counted twin = story.told();
        for (int at = 0; at < questions; at++) {
            if (twin.left() == 0) {
                twin = story.told();
            }
            seen[at] = QUESTIONS.get(at).of(twin);
        }
        return seen;
    }

    private static void add(String name, Story.Call question) {
        NAMES.add(name);
        QUESTIONS.add(question);
    }

    private static void askOfTheWheel() {
        for (int number = 0; number <= 16; number++) {
            int what = number;
            if (what < 11 || what > 13) {
                add("count(" + what + ")", wheel -> wheel.count(what));
            }
        }
        for (int number = 0; number < 40; number++) {
            int promise = number;
            for (int part = 0; part <= 8; part++) {
                int what = part;
                add("promise(" + promise + ", " + what + ")", wheel -> wheel.promise(promise, what));
            }
            add("when(" + promise + ")", wheel -> wheel.when(promise));
        }
        for (int line = 0; line < 24; line++) {
            askOfSlot(line / 8, line % 8);
        }
        for (int number = 0; number < 40; number++) {
            int place = number;
            add("stands(3, 0, " + place + ")", wheel -> wheel.stands(3, 0, place));
        }
        for (int number = 0; number < 12; number++) {
            int call = number;
            for (int part = 0; part <= 2; part++) {
                int what = part;
                add("call(" + call + ", " + what + ")", wheel -> wheel.call(call, what));
            }
        }
        add("next(0, 0)", wheel -> wheel.next(0, 0));
        add("next(1, 1)", wheel -> wheel.next(1, 1));
        add("would(600, 0)", wheel -> wheel.would(600, 0));
        add("leastRoom(200)", wheel -> wheel.leastRoom(200));
    }

    private static void askOfSlot(int ring, int slot) {
        for (int part = 0; part <= 2; part++) {
            int what = part;
            add("slot(" + ring + ", " + slot + ", " + what + ")", wheel -> wheel.slot(ring, slot, what));
            int place = part;
            add("stands(" + ring + ", " + slot + ", " + place + ")",
                    wheel -> wheel.stands(ring, slot, place));
        }
    }

    private static void askOfTheRest() {
        for (int number = 11; number <= 13; number++) {
            int what = number;
            add("count(" + what + ")", wheel -> wheel.count(what));
        }
        for (int number = 0; number <= 3; number++) {
            int what = number;
            add("failure(" + what + ")", wheel -> wheel.failure(what));
        }
    }
}
