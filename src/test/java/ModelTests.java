/** Long runs of calls, each answer of which is compared with that of the plain model. */
public final class ModelTests {
    private static final int RUNS = 1500;
    private static final int CALLS = 512;
    private static final String[] COMMANDS = {
        "give 5 0 0;", "give 70 9 3;", "give500 511 99;", "give 0 0 0;", "break 0;", "break 3;",
        "break 39;", "move 1 8;", "move 2 511;", "move 0 0;", "pass 1;", "pass 9;", "pass 70;",
        "pass 601;", "sweep;", " ", "  sweep  ; ", "pass 01;", "give 1 0", ";", "x", "Sweep;",
        "pass 12345;", "give 1 1 1;", "break 1 2;"};

    private final long seed;
    private long noise;
    private final PromiseWheel wheel = new PromiseWheel();
    private final PlainModel model = new PlainModel();
    private String lastCall = "new";

    private ModelTests(long seed) {
        this.seed = seed;
        this.noise = seed * 7919 + 17;
    }

    public static void main(String[] arguments) {
        for (int run = 0; run < RUNS && !Check.hasFailed(); run++) {
            new ModelTests(run).go();
        }
        Check.finish("ModelTests");
    }

    private void go() {
        int crowd = below(4);
        for (int call = 0; call < CALLS && !Check.hasFailed(); call++) {
            if (below(60) == 0) {
                wild();
            } else if (below(3) < 2) {
                act(crowd);
            } else {
                look();
            }
            if (call % 32 == 31) {
                compareAll();
            }
        }
    }

    /** The same noise in each run of the tests: no random source is asked. */
    private int below(int bound) {
        noise = noise * 6364136223846793005L + 1442695040888963407L;
        return (int) ((noise >>> 33) % bound);
    }

    private int between(int least, int most) {
        return least + below(most - least + 1);
    }

    private void same(String call, int got, int due) {
        Check.same("seed " + seed + ", " + call + " (before it " + lastCall + ")", got, due);
        lastCall = call;
    }

    private int delay() {
        int[] most = {2, 8, 20, 64, 130, 511};
        return between(1, most[below(6)]);
    }

    private void act(int crowd) {
        switch (below(16)) {
            case 0: case 1: case 2: case 3:
                give(crowd);
                break;
            case 4:
                breakOff(below(model.count(1) + 1));
                break;
            case 5: case 6:
                move(below(model.count(1) + 1), delay());
                break;
            case 7: case 8: case 9: case 10:
                pass(below(12) == 0 ? between(1, 600) : below(3) == 0 ? between(1, 70) : between(1, 6));
                break;
            case 11:
                if (below(4) == 0) {
                    same("sweep()", wheel.sweep(), model.sweep());
                }
                break;
            case 12:
                set(crowd);
                break;
            case 13:
                snapshot();
                break;
            case 14:
                if (below(3) == 0) {
                    same("undo()", wheel.undo(), model.undo());
                }
                break;
            default:
                runText();
        }
    }

    private void give(int crowd) {
        int delay = crowd > 1 ? between(1, 9) : delay();
        int period = below(3) == 0 ? 0 : crowd > 1 ? between(1, 5) : between(1, 511);
        int repetitions = period == 0 ? 0 : between(0, 99);
        give(delay, period, repetitions);
    }

    private void give(int delay, int period, int repetitions) {
        same("give(" + delay + ", " + period + ", " + repetitions + ")",
                wheel.give(delay, period, repetitions), model.give(delay, period, repetitions));
    }

    private void breakOff(int promise) {
        same("breakOff(" + promise + ")", wheel.breakOff(promise), model.breakOff(promise));
    }

    private void move(int promise, int delay) {
        same("move(" + promise + ", " + delay + ")",
                wheel.move(promise, delay), model.move(promise, delay));
    }

    private void pass(int ticks) {
        same("pass(" + ticks + ")", wheel.pass(ticks), model.pass(ticks));
    }

    private void set(int crowd) {
        int what = below(3);
        int most = what == 2 ? 1 : what == 1 ? 6 : crowd == 3 ? 2 : 20;
        int value = below(most + 2);
        same("set(" + what + ", " + value + ")", wheel.set(what, value), model.set(what, value));
    }

    private void snapshot() {
        int slot = below(2);
        if (below(2) == 0) {
            same("take(" + slot + ")", wheel.take(slot), model.take(slot));
        } else {
            same("restore(" + slot + ")", wheel.restore(slot), model.restore(slot));
        }
    }

    private void append(int character) {
        same("append(" + character + ")", wheel.append(character), model.append(character));
    }

    private void runText() {
        if (below(4) == 0) {
            same("clearText()", wheel.clearText(), model.clearText());
        }
        int commands = below(10) == 0 ? 22 : below(6);
        for (int command = 0; command < commands; command++) {
            int kinds = below(3) == 0 ? COMMANDS.length : 17;
            String text = COMMANDS[below(kinds)];
            for (int at = 0; at < text.length(); at++) {
                append(text.charAt(at));
            }
        }
        if (below(20) == 0) {
            append(between(-1, 257));
        }
        same("run()", wheel.run(), model.run());
        for (int what = 0; what <= 3; what++) {
            same("failure(" + what + ")", wheel.failure(what), model.failure(what));
        }
    }

    private void look() {
        int promise = below(model.count(1) + 1);
        int ticks = between(1, 200);
        switch (below(9)) {
            case 0:
                same("when(" + promise + ")", wheel.when(promise), model.when(promise));
                break;
            case 1:
                would(below(3) == 0 ? 600 : ticks, below(3));
                break;
            case 2:
                same("leastRoom(" + ticks + ")", wheel.leastRoom(ticks), model.leastRoom(ticks));
                break;
            case 3: case 4:
                next();
                break;
            default:
                lookAt(promise);
        }
    }

    private void would(int ticks, int what) {
        same("would(" + ticks + ", " + what + ")",
                wheel.would(ticks, what), model.would(ticks, what));
    }

    private void next() {
        for (int way = 0; way <= 1; way++) {
            for (int what = 0; what <= 1; what++) {
                same("next(" + way + ", " + what + ")",
                        wheel.next(way, what), model.next(way, what));
            }
        }
    }

    private void lookAt(int promise) {
        for (int what = 0; what <= 8; what++) {
            same("promise(" + promise + ", " + what + ")",
                    wheel.promise(promise, what), model.promise(promise, what));
        }
    }

    /** Arguments that are mostly out of range. */
    private void wild() {
        int[] values = {Integer.MIN_VALUE, -1, 0, 1, 2, 3, 8, 39, 40, 512, 601, Integer.MAX_VALUE};
        int a = values[below(values.length)];
        int b = values[below(values.length)];
        int c = values[below(values.length)];
        String with = "(" + a + ", " + b + ", " + c + ")";
        same("wild give" + with, wheel.give(a, b, c), model.give(a, b, c));
        same("wild breakOff" + with, wheel.breakOff(a), model.breakOff(a));
        same("wild move" + with, wheel.move(a, b), model.move(a, b));
        same("wild pass" + with, wheel.pass(a), model.pass(a));
        same("wild set" + with, wheel.set(a, b), model.set(a, b));
        same("wild take" + with, wheel.take(a), model.take(a));
        same("wild restore" + with, wheel.restore(a), model.restore(a));
        same("wild append" + with, wheel.append(a), model.append(a));
        same("wild failure" + with, wheel.failure(a), model.failure(a));
        same("wild count" + with, wheel.count(a), model.count(a));
        same("wild promise" + with, wheel.promise(a, b), model.promise(a, b));
        same("wild slot" + with, wheel.slot(a, b, c), model.slot(a, b, c));
        same("wild stands" + with, wheel.stands(a, b, c), model.stands(a, b, c));
        same("wild call" + with, wheel.call(a, b), model.call(a, b));
        same("wild next" + with, wheel.next(a, b), model.next(a, b));
        same("wild when" + with, wheel.when(a), model.when(a));
        same("wild would" + with, wheel.would(a, b), model.would(a, b));
        same("wild leastRoom" + with, wheel.leastRoom(a), model.leastRoom(a));
    }

    private void compareAll() {
        for (int what = 0; what <= 16; what++) {
            same("count(" + what + ")", wheel.count(what), model.count(what));
        }
        for (int promise = 0; promise < model.count(1); promise++) {
            lookAt(promise);
            same("stands(3, 0, " + promise + ")",
                    wheel.stands(3, 0, promise), model.stands(3, 0, promise));
        }
        for (int line = 0; line < 24; line++) {
            int ring = line / 8;
            int slot = line % 8;
            for (int what = 0; what <= 2; what++) {
                same("slot(" + ring + ", " + slot + ", " + what + ")",
                        wheel.slot(ring, slot, what), model.slot(ring, slot, what));
            }
            for (int place = 0; place <= model.slot(ring, slot, 0); place++) {
                same("stands(" + ring + ", " + slot + ", " + place + ")",
                        wheel.stands(ring, slot, place), model.stands(ring, slot, place));
            }
        }
        for (int call = 0; call < 12; call++) {
            for (int what = 0; what <= 2; what++) {
                same("call(" + call + ", " + what + ")",
                        wheel.call(call, what), model.call(call, what));
            }
        }
    }
}
