import java.util.Random;

/** Long runs of calls of every kind, answered as the model answers them. The seeds are fixed. */
public final class ModelTest {
    private static final int RUNS = 400;
    private static final int CALLS = 512;

    private final SortDesk desk = new SortDesk();
    private final Model model = new Model();
    private final Random random;
    private final int seed;
    private final int kindOfKeys;
    private final int growth;
    private int calls;

    private ModelTest(int seed) {
        this.seed = seed;
        this.random = new Random(seed);
        this.kindOfKeys = seed % 6;
        this.growth = 2 + seed % 9;
    }

    public static void main(String[] args) {
        for (int seed = 0; seed < RUNS; seed++) {
            new ModelTest(seed).run();
        }
        Check.end();
    }

    // Half of the runs, of every kind of keys, stop early: the calls that are left, of the 512 that
    // the document promises, see the row and the trail.
    private void run() {
        int chosenCalls = seed / 6 % 2 == 0 ? CALLS : 200;
        while (calls < chosenCalls) {
            if (random.nextInt(10) < growth && calls < 300) {
                grow(calls);
            } else {
                call();
            }
        }
        compareAll();
    }

    private void compareAll() {
        int size = (int) model.figure(0);
        for (int i = 0; i < size; i++) {
            int place = i;
            same("at", () -> desk.at(place, false), () -> model.at(place, false));
            same("at tag", () -> desk.at(place, true), () -> model.at(place, true));
        }
        for (int i = 0; i <= model.steps(); i++) {
            for (int what = 0; what < 3; what++) {
                int step = i;
                int number = what;
                same("step", () -> desk.step(step, number), () -> model.step(step, number));
            }
        }
    }

    private void grow(int tag) {
        int key = key(tag);
        int place = random.nextInt(160) - 2;
        if (random.nextInt(4) > 0) {
            same("put", () -> desk.put(key, tag), () -> model.put(key, tag));
        } else {
            same("insert", () -> desk.insert(place, key, tag), () -> model.insert(place, key, tag));
        }
    }

    private int key(int i) {
        switch (kindOfKeys) {
            case 0: return random.nextInt();
            case 1: return random.nextInt(10) - 5;
            case 2: return -i * 3;
            case 3: return i / 2 - (random.nextInt(8) == 0 ? 50 : 0);
            case 4: return random.nextInt(520) - 260;
            default: return random.nextBoolean() ? Integer.MIN_VALUE + random.nextInt(3)
                : Integer.MAX_VALUE - random.nextInt(3);
        }
    }

    private void call() {
        int near = random.nextInt(9) - 2;
        int place = random.nextInt(154) - 2;
        int key = key(place);
        switch (random.nextInt(18)) {
            case 0: same("remove", () -> desk.remove(near), () -> model.remove(near)); break;
            case 1: same("at", () -> desk.at(place, true), () -> model.at(place, true)); break;
            case 2: same("figure", () -> desk.figure(near), () -> model.figure(near)); break;
            case 3: rule(near); break;
            case 4: same("forget", () -> desk.forget(near), () -> model.forget(near)); break;
            case 5: same("plan", () -> desk.plan(), () -> model.plan()); break;
            case 6: same("isFit", () -> desk.isFit(near) ? 1 : 0, () -> model.isFit(near) ? 1 : 0); break;
            case 7: case 8: case 9: same("order", () -> desk.order(near), () -> model.order(near)); break;
            case 10: same("putBack", () -> desk.putBack(), () -> model.putBack()); break;
            case 11: same("steps", () -> desk.steps(), () -> model.steps()); break;
            case 12: same("step", () -> desk.step(place, near), () -> model.step(place, near)); break;
            case 13: same("origin", () -> desk.origin(place), () -> model.origin(place)); break;
            case 14: same("below", () -> desk.below(key), () -> model.below(key)); break;
            case 15: same("compared", () -> desk.compared(), () -> model.compared()); break;
            case 16: same("times", () -> desk.times(near), () -> model.times(near)); break;
            default: same("astray", () -> desk.astray(), () -> model.astray()); break;
        }
    }

    private void rule(int way) {
        int figure = random.nextInt(10) - 1;
        long least = random.nextInt(200) - 100;
        long most = least + random.nextInt(400) - 20;
        same("rule", () -> desk.rule(figure, least, most, way), () -> model.rule(figure, least, most, way));
    }

    private void same(String call, Check.Call ours, Check.Call models) {
        if (calls == CALLS) {
            return;
        }
        calls++;
        Check.due("seed " + seed + ": " + call, Check.outcome(ours), Check.outcome(models));
    }
}
