/** The document's face, so that one call can be asked of the program and of the plain model. */
interface Face {
    int give(int delay, int period, int repetitions);

    int breakOff(int promise);

    int move(int promise, int delay);

    int pass(int ticks);

    int sweep();

    int set(int what, int value);

    int take(int slot);

    int restore(int slot);

    int undo();

    int append(int character);

    int clearText();

    int run();

    int failure(int what);

    int count(int what);

    int promise(int promise, int what);

    int slot(int ring, int slot, int what);

    int stands(int ring, int slot, int place);

    int call(int call, int what);

    int next(int way, int what);

    int when(int promise);

    int would(int ticks, int what);

    int leastRoom(int ticks);

    /** The call with this name, with as many of the arguments as it takes. */
    default int ask(String name, int[] with) {
        switch (name) {
            case "give":
                return give(with[0], with[1], with[2]);
            case "breakOff":
                return breakOff(with[0]);
            case "move":
                return move(with[0], with[1]);
            case "pass":
                return pass(with[0]);
            case "sweep":
                return sweep();
            case "set":
                return set(with[0], with[1]);
            case "take":
                return take(with[0]);
            case "restore":
                return restore(with[0]);
            case "undo":
                return undo();
            case "append":
                return append(with[0]);
            case "clearText":
                return clearText();
            case "run":
                return run();
            case "failure":
                return failure(with[0]);
            default:
                return look(name, with);
        }
    }

    private int look(String name, int[] with) {
        switch (name) {
            case "count":
                return count(with[0]);
            case "promise":
                return promise(with[0], with[1]);
            case "slot":
                return slot(with[0], with[1], with[2]);
            case "stands":
                return stands(with[0], with[1], with[2]);
            case "call":
                return call(with[0], with[1]);
            case "next":
                return next(with[0], with[1]);
            case "when":
                return when(with[0]);
            case "would":
                return would(with[0], with[1]);
            case "leastRoom":
                return leastRoom(with[0]);
            default:
                throw new IllegalArgumentException("there is no call " + name);
        }
    }
}
