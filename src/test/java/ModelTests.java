import java.util.Arrays;

/** Runs of 512 calls, each answer of which is compared with that of the plain model. */
public final class ModelTests {
    private static final int RUNS = 12_000;
    // The last calls of a run look at what stands then.
    private static final int LAST_LOOKS = 60;
    private static final String[] COMMANDS = {
        "give 5 0 0;", "give 70 9 3;", "give500 511 99;", "give 0 0 0;", "break 0;", "break 3;",
        "break 39;", "move 1 8;", "move 2 511;", "move 0 0;", "pass 1;", "pass 9;", "pass 70;",
        "pass 601;", "sweep;", " ", "  sweep  ; ", "pass 01;", "give 1 0", ";", "x", "Sweep;",
        "pass 12345;", "pass 1000;", "break 00;", "passX1;", "sweep", "give 1 1 1;", "break 1 2;"};
    private static final String[] CALLS = {
        "give", "breakOff", "move", "pass", "set", "take", "restore", "append", "failure", "count",
        "promise", "slot", "stands", "call", "next", "when", "would", "leastRoom"};
    private static final int[] WILD = {
        Integer.MIN_VALUE, -1, 0, 1, 2, 3, 4, 7, 8, 9, 11, 12, 16, 17, 20, 21, 39, 40, 41, 99, 100, 200, 201,
        255, 256, 511, 512, 600, 601, Integer.MAX_VALUE};

    private final long seed;
    private long noise;
    private final Counted wheel = new Counted();
    private final PlainModel model = new PlainModel();
    private String lastCall = "new";

    private ModelTests(long seed) {
        this.seed = seed;
        this.noise = seed * 7919 + 17;
    }

    public static void main(String[] arguments) {
        for (int run = 0; run < RUNS && !Check.hasFailed(); run++) {
            new ModelTests(run).go();
        }
        Check.finish("ModelTests");
    }

    private void go() {
        int crowd = below(4);
        if (below(20) == 0) {
            passAlmostAll();
        }
        while (wheel.left() > LAST_LOOKS && !Check.hasFailed()) {
            int turn = below(20);
            if (turn == 0) {
                wild();
            } else if (turn < 14) {
                act(crowd);
            } else {
                look();
            }
        }
        for (int what = 0; what <= 16; what++) {
            same("count", what);
        }
        while (wheel.left() > 0 && !Check.hasFailed()) {
            lookAnywhere();
        }
    }

    /** So that some runs come to the last tick. */
    private void passAlmostAll() {
        for (int step = 0; step < 33; step++) {
            same("pass", 600);
        }
    }

    /** The same noise in each run of the tests: no random source is asked. */
    private int below(int bound) {
        noise = noise * 6364136223846793005L + 1442695040888963407L;
        return (int) ((noise >>> 33) % bound);
    }

    private int between(int least, int most) {
        return least + below(most - least + 1);
    }

    /** Nothing is asked any more when the run's calls are used up. */
    private void same(String name, int... with) {
        if (wheel.left() == 0) {
            return;
        }
        String call = name + Arrays.toString(with);
        Check.same("seed " + seed + ", " + call + " (before it " + lastCall + ")",
                wheel.ask(name, with), model.ask(name, with));
        lastCall = call;
    }

    private int delay() {
        int[] most = {2, 8, 20, 64, 130, 511};
        return between(1, most[below(6)]);
    }

    private int somePromise() {
        return below(model.count(1) + 1);
    }

    private void act(int crowd) {
        switch (below(16)) {
            case 0: case 1: case 2: case 3:
                give(crowd);
                break;
            case 4:
                breakOff(crowd);
                break;
            case 5: case 6:
                same("move", somePromise(), delay());
                break;
            case 7: case 8: case 9: case 10:
                pass();
                break;
            case 11:
                if (below(4) == 0) {
                    same("sweep");
                }
                break;
            case 12:
                set(crowd);
                break;
            case 13:
                same(below(2) == 0 ? "take" : "restore", below(2));
                break;
            case 14:
                if (below(3) == 0) {
                    same("undo");
                }
                break;
            default:
                if (below(3) == 0) {
                    runText();
                }
        }
    }

    private void give(int crowd) {
        int delay = crowd > 1 ? between(1, 9) : delay();
        int period = below(3) == 0 ? 0 : crowd > 1 ? between(1, 5) : between(1, 511);
        int repetitions = period == 0 ? 0 : between(0, 99);
        same("give", delay, period, repetitions);
    }

    /** In the largest crowds many that are ready are broken, so that the queue is swept, too. */
    private void breakOff(int crowd) {
        same("breakOff", somePromise());
        if (crowd == 3 && model.stands(3, 0, 0) >= 0) {
            same("breakOff", model.stands(3, 0, below(4)));
        }
    }

    private void pass() {
        same("pass", below(12) == 0 ? between(1, 600) : below(3) == 0 ? between(1, 70) : between(1, 6));
    }

    private void set(int crowd) {
        int what = below(3);
        int most = what == 2 ? 1 : what == 1 ? 6 : crowd == 3 ? 2 : 20;
        same("set", what, below(most + 2));
    }

    private void runText() {
        if (below(4) == 0) {
            same("clearText");
        }
        int commands = below(10) == 0 ? 22 : below(6);
        for (int command = 0; command < commands; command++) {
            int kinds = below(3) == 0 ? COMMANDS.length : 17;
            String text = COMMANDS[below(kinds)];
            for (int at = 0; at < text.length(); at++) {
                same("append", text.charAt(at));
            }
        }
        if (below(20) == 0) {
            same("append", between(-1, 257));
        }
        same("run");
        for (int what = 0; what <= 3; what++) {
            same("failure", what);
        }
    }

    private void look() {
        int ticks = between(1, 200);
        switch (below(6)) {
            case 0:
                same("when", somePromise());
                break;
            case 1:
                same("would", below(3) == 0 ? 600 : ticks, below(3));
                break;
            case 2:
                same("leastRoom", ticks);
                break;
            case 3:
                next(below(2));
                break;
            default:
                lookAnywhere();
        }
    }

    private void next(int what) {
        same("next", 0, what);
        same("next", 1, what);
    }

    private void lookAnywhere() {
        switch (below(6)) {
            case 0:
                same("count", below(17));
                break;
            case 1: case 2:
                same("promise", somePromise(), below(9));
                break;
            case 3:
                same("slot", below(3), below(8), below(3));
                break;
            case 4:
                stands();
                break;
            default:
                same("call", below(12), below(3));
        }
    }

    private void stands() {
        int ring = below(4);
        int slot = ring == 3 ? 0 : below(8);
        int most = below(3) == 0 ? 40 : 3;
        same("stands", ring, slot, below(most));
    }

    /** Arguments that are mostly out of range. */
    private void wild() {
        int a = WILD[below(WILD.length)];
        int b = WILD[below(WILD.length)];
        int c = WILD[below(WILD.length)];
        same(CALLS[below(CALLS.length)], a, b, c);
    }
}
