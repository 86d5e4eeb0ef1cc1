import java.util.ArrayDeque;
import java.util.ArrayList;
import java.util.Deque;
import java.util.List;
import java.util.regex.Matcher;
import java.util.regex.Pattern;

/**
 * The document once more, in lists of the Java library and with whole copies for each state, so that
 * the program can be compared with something that is held in another way.
 */
final class PlainModel implements Face {
    private static final int INVALID = -1;
    private static final int ILLEGAL = -2;
    private static final int FULL = -3;
    private static final int NONE = -9;

    private enum Stage { WAITING, READY, DONE, BROKEN, SWEPT }

    private static final class Item {
        private final int number;
        private int due;
        private int period;
        private int left;
        private Stage stage = Stage.WAITING;
        private int called;
        private int lateness;

        Item(int number) {
            this.number = number;
        }

        Item copy() {
            Item copy = new Item(number);
            copy.due = due;
            copy.period = period;
            copy.left = left;
            copy.stage = stage;
            copy.called = called;
            copy.lateness = lateness;
            return copy;
        }

        boolean broken() {
            return stage == Stage.BROKEN;
        }
    }

    private static final class World {
        private int now;
        private final int[] settings = {3, 5, 0};
        private final List<Item> items = new ArrayList<>();
        private final List<List<List<Integer>>> rings = new ArrayList<>();
        private List<Integer> queue = new ArrayList<>();
        private final List<int[]> calls = new ArrayList<>();
        private int late;
        private int falls;
        private int swept;
        private int passedOver;
        private int longest;

        World() {
            for (int ring = 0; ring < 3; ring++) {
                List<List<Integer>> slots = new ArrayList<>();
                for (int slot = 0; slot < 8; slot++) {
                    slots.add(new ArrayList<>());
                }
                rings.add(slots);
            }
        }

        World copy() {
            World copy = new World();
            copy.now = now;
            System.arraycopy(settings, 0, copy.settings, 0, 3);
            for (Item item : items) {
                copy.items.add(item.copy());
            }
            for (int ring = 0; ring < 3; ring++) {
                for (int slot = 0; slot < 8; slot++) {
                    copy.rings.get(ring).get(slot).addAll(rings.get(ring).get(slot));
                }
            }
            copy.queue = new ArrayList<>(queue);
            copy.calls.addAll(calls);
            copy.late = late;
            copy.falls = falls;
            copy.swept = swept;
            copy.passedOver = passedOver;
            copy.longest = longest;
            return copy;
        }

        void put(Item item) {
            int distance = item.due - now;
            if (distance < 8) {
                rings.get(0).get(item.due % 8).add(item.number);
            } else if (distance <= 63) {
                rings.get(1).get(item.due / 8 % 8).add(item.number);
            } else {
                rings.get(2).get(item.due / 64 % 8).add(item.number);
            }
        }

        void removeFromAll(int number) {
            for (List<List<Integer>> ring : rings) {
                for (List<Integer> slot : ring) {
                    slot.remove(Integer.valueOf(number));
                }
            }
            queue.remove(Integer.valueOf(number));
        }

        int brokenStanding() {
            int found = 0;
            for (Item item : items) {
                found += item.broken() ? 1 : 0;
            }
            return found;
        }

        int in(Stage stage) {
            int found = 0;
            for (Item item : items) {
                found += item.stage == stage ? 1 : 0;
            }
            return found;
        }

        void sweepOne(Item item) {
            item.stage = Stage.SWEPT;
            swept++;
        }

        int sweepAll() {
            int found = 0;
            for (Item item : items) {
                if (item.broken()) {
                    removeFromAll(item.number);
                    sweepOne(item);
                    found++;
                }
            }
            return found;
        }

        private List<Item> emptied(List<Integer> slot) {
            List<Item> leaving = new ArrayList<>();
            for (int number : slot) {
                leaving.add(items.get(number));
            }
            slot.clear();
            return leaving;
        }

        private void fall(int ring, int slot) {
            for (Item item : emptied(rings.get(ring).get(slot))) {
                if (item.broken()) {
                    sweepOne(item);
                } else {
                    put(item);
                    falls++;
                }
            }
        }

        int tick() {
            now++;
            if (now % 64 == 0) {
                fall(2, now / 64 % 8);
            }
            if (now % 8 == 0) {
                fall(1, now / 8 % 8);
            }
            for (Item item : emptied(rings.get(0).get(now % 8))) {
                if (item.broken()) {
                    sweepOne(item);
                } else {
                    item.stage = Stage.READY;
                    queue.add(item.number);
                }
            }
            int served = 0;
            while (!queue.isEmpty() && served < settings[0]) {
                Item item = items.get(queue.remove(0));
                if (item.broken()) {
                    sweepOne(item);
                } else {
                    serve(item);
                    served++;
                }
            }
            if (brokenStanding() > settings[1]) {
                sweepAll();
            }
            longest = Math.max(longest, queue.size());
            return served;
        }

        private void serve(Item item) {
            calls.add(new int[] {item.number, item.due, now});
            item.called++;
            if (item.due < now) {
                late++;
                item.lateness += now - item.due;
            }
            if (item.left == 0) {
                item.stage = Stage.DONE;
                return;
            }
            item.left--;
            if (settings[2] == 1) {
                item.due = now + item.period;
            } else {
                item.due += item.period;
                while (item.due <= now) {
                    item.due += item.period;
                    passedOver++;
                }
            }
            item.stage = Stage.WAITING;
            put(item);
        }
    }

    private static final class Saved {
        private final World world;
        private final World[] snapshots;

        Saved(World world, World[] snapshots) {
            this.world = world;
            this.snapshots = snapshots;
        }
    }

    private World world = new World();
    private World[] snapshots = new World[2];
    private final Deque<Saved> history = new ArrayDeque<>();
    private String text = "";
    private int[] failure;

    private Saved saved() {
        return new Saved(world.copy(), snapshots.clone());
    }

    private int record(Saved before, int answer) {
        if (answer >= 0) {
            history.addLast(before);
            if (history.size() > 5) {
                history.removeFirst();
            }
        }
        return answer;
    }

    private static boolean out(int value, int least, int most) {
        return value < least || value > most;
    }

    @Override
    public int give(int delay, int period, int repetitions) {
        Saved before = saved();
        return record(before, doGive(delay, period, repetitions));
    }

    private int doGive(int delay, int period, int repetitions) {
        if (out(delay, 1, 511) || out(period, 0, 511) || out(repetitions, 0, 99)) {
            return INVALID;
        }
        if (period == 0 && repetitions > 0) {
            return INVALID;
        }
        if (world.items.size() == 40) {
            return FULL;
        }
        Item item = new Item(world.items.size());
        item.due = world.now + delay;
        item.period = period;
        item.left = repetitions;
        world.items.add(item);
        world.put(item);
        return item.number;
    }

    @Override
    public int breakOff(int promise) {
        Saved before = saved();
        return record(before, doBreak(promise));
    }

    private boolean missing(int promise) {
        return out(promise, 0, world.items.size() - 1);
    }

    private int doBreak(int promise) {
        if (missing(promise)) {
            return INVALID;
        }
        Item item = world.items.get(promise);
        if (item.stage != Stage.WAITING && item.stage != Stage.READY) {
            return ILLEGAL;
        }
        item.stage = Stage.BROKEN;
        return world.brokenStanding();
    }

    @Override
    public int move(int promise, int delay) {
        Saved before = saved();
        return record(before, doMove(promise, delay));
    }

    private int doMove(int promise, int delay) {
        if (missing(promise) || out(delay, 1, 511)) {
            return INVALID;
        }
        Item item = world.items.get(promise);
        if (item.stage != Stage.WAITING) {
            return ILLEGAL;
        }
        int old = item.due;
        world.removeFromAll(promise);
        item.due = world.now + delay;
        world.put(item);
        return old;
    }

    @Override
    public int pass(int ticks) {
        Saved before = saved();
        return record(before, doPass(ticks));
    }

    private int doPass(int ticks) {
        if (out(ticks, 1, 600)) {
            return INVALID;
        }
        if (world.now > 20000 - ticks) {
            return FULL;
        }
        int called = 0;
        for (int tick = 0; tick < ticks; tick++) {
            called += world.tick();
        }
        return called;
    }

    @Override
    public int sweep() {
        Saved before = saved();
        return record(before, world.sweepAll());
    }

    @Override
    public int set(int what, int value) {
        if (out(what, 0, 2)) {
            return INVALID;
        }
        int least = what == 0 ? 1 : 0;
        int most = what == 0 ? 20 : what == 1 ? 40 : 1;
        if (out(value, least, most)) {
            return INVALID;
        }
        Saved before = saved();
        int old = world.settings[what];
        world.settings[what] = value;
        return record(before, old);
    }

    @Override
    public int take(int slot) {
        if (out(slot, 0, 1)) {
            return INVALID;
        }
        Saved before = saved();
        snapshots[slot] = world.copy();
        return record(before, world.now);
    }

    @Override
    public int restore(int slot) {
        if (out(slot, 0, 1)) {
            return INVALID;
        }
        if (snapshots[slot] == null) {
            return ILLEGAL;
        }
        Saved before = saved();
        world = snapshots[slot].copy();
        return record(before, world.now);
    }

    @Override
    public int undo() {
        if (history.isEmpty()) {
            return ILLEGAL;
        }
        bringBack(history.removeLast());
        return history.size();
    }

    private void bringBack(Saved saved) {
        world = saved.world;
        snapshots = saved.snapshots;
    }

    @Override
    public int append(int character) {
        if (out(character, 1, 255)) {
            return INVALID;
        }
        if (text.length() == 120) {
            return FULL;
        }
        text += (char) character;
        return text.length();
    }

    @Override
    public int clearText() {
        int length = text.length();
        text = "";
        return length;
    }

    private static final Pattern TOKEN = Pattern.compile("[a-z]+|[0-9]+|[^ ]", Pattern.DOTALL);

    @Override
    public int run() {
        Saved before = saved();
        List<String> tokens = new ArrayList<>();
        List<Integer> places = new ArrayList<>();
        Matcher matcher = TOKEN.matcher(text);
        while (matcher.find()) {
            tokens.add(matcher.group());
            places.add(matcher.start());
        }
        int done = 0;
        int at = 0;
        while (at < tokens.size()) {
            int word = at;
            int numbers = List.of("sweep", "break", "move", "give").indexOf(tokens.get(at));
            if (tokens.get(at).equals("pass")) {
                numbers = 1;
            }
            if (numbers < 0) {
                return failed(before, 1, places.get(at), done, NONE);
            }
            at++;
            int[] values = new int[3];
            for (int index = 0; index <= numbers; index++, at++) {
                String due = index == numbers ? ";" : "0|[1-9][0-9]{0,3}";
                if (at >= tokens.size() || !tokens.get(at).matches(due)) {
                    int place = at < tokens.size() ? places.get(at) : text.length();
                    return failed(before, 1, place, done, NONE);
                }
                if (index < numbers) {
                    values[index] = Integer.parseInt(tokens.get(at));
                }
            }
            int answer = perform(tokens.get(word), values);
            if (answer < 0) {
                return failed(before, 2, places.get(word), done, answer);
            }
            done++;
        }
        text = "";
        return record(before, done);
    }

    private int perform(String word, int[] values) {
        switch (word) {
            case "give":
                return doGive(values[0], values[1], values[2]);
            case "break":
                return doBreak(values[0]);
            case "move":
                return doMove(values[0], values[1]);
            case "pass":
                return doPass(values[0]);
            default:
                return world.sweepAll();
        }
    }

    private int failed(Saved before, int kind, int place, int done, int code) {
        bringBack(before);
        failure = new int[] {kind, place, done, code};
        return -1000 - place;
    }

    @Override
    public int failure(int what) {
        if (out(what, 0, 3)) {
            return INVALID;
        }
        return failure == null ? NONE : failure[what];
    }

    @Override
    public int count(int what) {
        if (out(what, 0, 16)) {
            return INVALID;
        }
        int taken = (snapshots[0] == null ? 0 : 1) + (snapshots[1] == null ? 0 : 1);
        int[] all = {
            world.now, world.items.size(), world.in(Stage.WAITING), world.in(Stage.READY),
            world.brokenStanding(), world.calls.size(), world.late, world.falls, world.swept,
            world.passedOver, world.longest, taken, history.size(), text.length(),
            world.settings[0], world.settings[1], world.settings[2]};
        return all[what];
    }

    @Override
    public int promise(int promise, int what) {
        if (missing(promise) || out(what, 0, 8)) {
            return INVALID;
        }
        Item item = world.items.get(promise);
        int ring = NONE;
        int slot = NONE;
        int place = world.queue.contains(promise) ? world.queue.indexOf(promise) : NONE;
        for (int line = 0; line < 24; line++) {
            List<Integer> standing = world.rings.get(line / 8).get(line % 8);
            if (standing.contains(promise)) {
                ring = line / 8;
                slot = line % 8;
                place = standing.indexOf(promise);
            }
        }
        int[] all = {
            item.stage.ordinal(), item.due, item.period, item.left, ring, slot, place,
            item.called, item.lateness};
        return all[what];
    }

    @Override
    public int slot(int ring, int slot, int what) {
        if (out(ring, 0, 2) || out(slot, 0, 7) || out(what, 0, 2)) {
            return INVALID;
        }
        List<Integer> standing = world.rings.get(ring).get(slot);
        int broken = 0;
        int smallest = Integer.MAX_VALUE;
        for (int number : standing) {
            Item item = world.items.get(number);
            if (item.broken()) {
                broken++;
            } else {
                smallest = Math.min(smallest, item.due);
            }
        }
        int[] all = {standing.size(), broken, smallest == Integer.MAX_VALUE ? NONE : smallest};
        return all[what];
    }

    @Override
    public int stands(int ring, int slot, int place) {
        if (out(ring, 0, 3) || out(slot, 0, ring == 3 ? 0 : 7) || place < 0) {
            return INVALID;
        }
        List<Integer> line = ring == 3 ? world.queue : world.rings.get(ring).get(slot);
        return place < line.size() ? line.get(place) : NONE;
    }

    @Override
    public int call(int call, int what) {
        if (out(call, 0, 11) || out(what, 0, 2)) {
            return INVALID;
        }
        int at = world.calls.size() - 1 - call;
        return at < 0 ? NONE : world.calls.get(at)[what];
    }

    @Override
    public int next(int way, int what) {
        if (out(way, 0, 1) || out(what, 0, 1)) {
            return INVALID;
        }
        Item first = null;
        for (Item item : world.items) {
            if (item.stage == Stage.WAITING && (first == null || item.due < first.due)) {
                first = item;
            }
        }
        if (first == null) {
            return NONE;
        }
        return what == 0 ? first.number : first.due;
    }

    @Override
    public int when(int promise) {
        if (missing(promise)) {
            return INVALID;
        }
        Stage stage = world.items.get(promise).stage;
        if (stage != Stage.WAITING && stage != Stage.READY) {
            return ILLEGAL;
        }
        World other = world.copy();
        for (int tick = 0; tick < 600; tick++) {
            int from = other.calls.size();
            other.tick();
            for (int[] call : other.calls.subList(from, other.calls.size())) {
                if (call[0] == promise) {
                    return other.now;
                }
            }
        }
        return NONE;
    }

    @Override
    public int would(int ticks, int what) {
        if (out(ticks, 1, 600) || out(what, 0, 2)) {
            return INVALID;
        }
        World other = world.copy();
        int called = 0;
        int ready = 0;
        for (int tick = 0; tick < ticks; tick++) {
            called += other.tick();
            ready = Math.max(ready, other.in(Stage.READY));
        }
        int[] all = {called, other.late - world.late, ready};
        return all[what];
    }

    @Override
    public int leastRoom(int ticks) {
        if (out(ticks, 1, 200)) {
            return INVALID;
        }
        for (int room = 1; room <= 20; room++) {
            World other = world.copy();
            other.settings[0] = room;
            for (int tick = 0; tick < ticks; tick++) {
                other.tick();
            }
            if (other.late == world.late) {
                return room;
            }
        }
        return NONE;
    }
}
