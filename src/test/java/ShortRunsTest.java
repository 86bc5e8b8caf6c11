/**
 * Every row of at most five items out of four keys, ordered by each way, and every run of four
 * changing calls on an empty desk and on one with items: all answered as the model answers them.
 */
public final class ShortRunsTest {
    private static final int MOST_ITEMS = 5;
    // Three of them lie within counting's reach, and each byte is the same in some of them.
    private static final int[] KEYS = {Integer.MIN_VALUE, -1, 0, 256};

    private static final int CALLS = 4;
    private static final int KINDS_OF_CALLS = 16;

    private final SortDesk desk = new SortDesk();
    private final Model model = new Model();
    private final StringBuilder told = new StringBuilder();

    private ShortRunsTest() {
    }

    public static void main(String[] args) {
        for (int size = 0, rows = 1; size <= MOST_ITEMS; size++, rows *= KEYS.length) {
            for (int row = 0; row < rows; row++) {
                for (int way = -1; way < 5; way++) {
                    smallRow(size, row, way);
                }
            }
        }
        int runs = (int) Math.pow(KINDS_OF_CALLS, CALLS);
        for (int run = 0; run < runs; run++) {
            shortRun(run, new int[] {});
            shortRun(run, new int[] {3, 1, 2, 1});
        }
        Check.end();
    }

    /** The row's number, written with as many digits as there are keys, tells the keys. */
    private static void smallRow(int size, int row, int way) {
        ShortRunsTest test = new ShortRunsTest();
        int rest = row;
        for (int i = 0; i < size; i++) {
            test.put(KEYS[rest % KEYS.length], i);
            rest /= KEYS.length;
        }
        test.compareRow();
        test.same("order " + way, () -> test.desk.order(way), () -> test.model.order(way));
        test.compareRow();
        test.compareTold();
        test.putBack();
        test.compareRow();
    }

    /** The run's number, written with as many digits as there are kinds of calls, tells the calls. */
    private static void shortRun(int run, int[] keys) {
        ShortRunsTest test = new ShortRunsTest();
        for (int i = 0; i < keys.length; i++) {
            test.put(keys[i], i);
        }
        int rest = run;
        for (int i = 0; i < CALLS; i++) {
            test.call(rest % KINDS_OF_CALLS, 10 + i);
            rest /= KINDS_OF_CALLS;
        }
        test.compareRow();
        test.compareTold();
        test.putBack();
        test.compareRow();
        test.compareTold();
    }

    private void call(int kind, int tag) {
        switch (kind) {
            case 0: put(2, tag); break;
            case 1: put(1, tag); break;
            case 2: same("insert", () -> desk.insert(0, 1, tag), () -> model.insert(0, 1, tag)); break;
            case 3: same("insert", () -> desk.insert(1, 900, tag), () -> model.insert(1, 900, tag)); break;
            case 4: same("remove", () -> desk.remove(0), () -> model.remove(0)); break;
            case 5: same("remove", () -> desk.remove(2), () -> model.remove(2)); break;
            case 6: putBack(); break;
            case 7: same("rule", () -> desk.rule(0, 0, 4, 4), () -> model.rule(0, 0, 4, 4)); break;
            case 8: same("rule", () -> desk.rule(5, 1, 9, 0), () -> model.rule(5, 1, 9, 0)); break;
            case 9: same("forget", () -> desk.forget(0), () -> model.forget(0)); break;
            default: same("order", () -> desk.order(kind - 11), () -> model.order(kind - 11)); break;
        }
    }

    private void put(int key, int tag) {
        same("put " + key, () -> desk.put(key, tag), () -> model.put(key, tag));
    }

    private void putBack() {
        same("putBack", () -> desk.putBack(), () -> model.putBack());
    }

    private void compareRow() {
        for (int i = 0; i < 8; i++) {
            int what = i;
            same("figure", () -> desk.figure(what), () -> model.figure(what));
        }
        for (int i = 0; i < model.figure(0); i++) {
            int place = i;
            same("at", () -> desk.at(place, false), () -> model.at(place, false));
            same("at, tag", () -> desk.at(place, true), () -> model.at(place, true));
            same("origin", () -> desk.origin(place), () -> model.origin(place));
        }
        same("below", () -> desk.below(1), () -> model.below(1));
        for (int i = 0; i < 5; i++) {
            int way = i;
            same("isFit", () -> desk.isFit(way) ? 1 : 0, () -> model.isFit(way) ? 1 : 0);
        }
        same("plan", () -> desk.plan(), () -> model.plan());
    }

    private void compareTold() {
        same("steps", () -> desk.steps(), () -> model.steps());
        for (int i = 0; i < model.steps() * 3; i++) {
            int number = i;
            same("step", () -> desk.step(number / 3, number % 3), () -> model.step(number / 3, number % 3));
        }
        for (int i = 0; i < 5; i++) {
            int way = i;
            same("times", () -> desk.times(way), () -> model.times(way));
        }
        same("compared", () -> desk.compared(), () -> model.compared());
        same("astray", () -> desk.astray(), () -> model.astray());
    }

    private void same(String call, Check.Call ours, Check.Call models) {
        String want = Check.outcome(models);
        told.append(' ').append(call).append('=').append(want);
        String got = Check.outcome(ours);
        Check.due(got.equals(want) ? call : "the last of" + told, got, want);
    }
}
