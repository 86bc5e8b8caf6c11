import java.util.Arrays;

/** What the tests share: they tell every answer that is not the one that is due. */
final class Check {
    interface Call {
        long answer();
    }

    interface CallOn {
        long answer(SortDesk desk);
    }

    interface Maker {
        SortDesk make();
    }

    private interface View {
        String of(SortDesk desk);
    }

    // One fault can spoil millions of answers: the first ones tell it.
    private static final int MOST_TOLD = 200;

    private static String sentence = "";
    private static int wrong = 0;
    private static int done = 0;

    private Check() {
    }

    /** Runs all cases, also those behind one that fails by an exception. */
    static void all(Runnable... cases) {
        for (Runnable one : cases) {
            try {
                one.run();
            } catch (RuntimeException e) {
                due("a call that must not throw", "throws." + e.getClass().getSimpleName(), "no exception");
            }
        }
        end();
    }

    /** The document's sentence that asks for the answers from here on. */
    static void sentence(String words) {
        sentence = "'" + words + "': ";
    }

    static void due(String what, long got, long want) {
        due(what, Long.toString(got), Long.toString(want));
    }

    static void due(String what, String got, String want) {
        done++;
        if (!got.equals(want)) {
            wrong++;
            tell(sentence + what + " answered " + got + ", due is " + want);
        }
    }

    private static void tell(String text) {
        if (wrong <= MOST_TOLD) {
            System.out.println(text);
        }
    }

    static void due(String what, boolean got, boolean want) {
        due(what, got ? 1 : 0, want ? 1 : 0);
    }

    /** The answer, or the name of the very class that was thrown, so that a subclass is seen. */
    static String outcome(Call call) {
        try {
            return Long.toString(call.answer());
        } catch (RuntimeException e) {
            return "throws." + e.getClass().getSimpleName();
        }
    }

    /** The call throws this exception, no other and no subclass, and changes nothing to be seen. */
    static void refused(String what, SortDesk desk, String exception, Call call) {
        String before = state(desk);
        due(what, outcome(call), "throws." + exception);
        due(what + ", state after it", state(desk), before);
    }

    /**
     * The call throws this exception, and afterwards the desk answers as one that was not called.
     * Each view has two desks of its own: so views may change them, and no desk comes to its 512th
     * call.
     */
    static void refused(String what, Maker maker, String exception, CallOn call) {
        View[] views = {Check::rowOf, Check::rulesOf, Check::trail, Check::countsOf, Check::backOf};
        for (View view : views) {
            SortDesk desk = maker.make();
            due(what, outcome(() -> call.answer(desk)), "throws." + exception);
            due(what + ", what is seen after it", view.of(desk), view.of(maker.make()));
        }
    }

    private static String rowOf(SortDesk desk) {
        return keys(desk) + tags(desk);
    }

    private static String rulesOf(SortDesk desk) {
        StringBuilder text = new StringBuilder();
        for (int i = 0; i <= 12; i++) {
            text.append(" plan ").append(desk.plan()).append(" left ").append(outcome(() -> desk.forget(0)));
        }
        return text.toString();
    }

    private static String countsOf(SortDesk desk) {
        StringBuilder text = new StringBuilder();
        for (int what = 0; what < 8; what++) {
            text.append(desk.figure(what)).append(' ');
        }
        for (int way = 0; way < 5; way++) {
            text.append(desk.isFit(way)).append(' ').append(desk.times(way)).append(' ');
        }
        return text.append(desk.compared()).append(' ').append(desk.astray()).toString();
    }

    private static String backOf(SortDesk desk) {
        return outcome(() -> desk.putBack()) + keys(desk) + desk.steps();
    }

    static SortDesk desk(int... keys) {
        SortDesk desk = new SortDesk();
        for (int i = 0; i < keys.length; i++) {
            desk.put(keys[i], 100 + i);
        }
        return desk;
    }

    static SortDesk full() {
        return rising(150);
    }

    static SortDesk rising(int size) {
        SortDesk desk = new SortDesk();
        for (int i = 0; i < size; i++) {
            desk.put(i, i);
        }
        return desk;
    }

    static SortDesk falling(int size) {
        SortDesk desk = new SortDesk();
        for (int i = 0; i < size; i++) {
            desk.put(-i, i);
        }
        return desk;
    }

    static SortDesk same(int size, int key) {
        SortDesk desk = new SortDesk();
        for (int i = 0; i < size; i++) {
            desk.put(key, i);
        }
        return desk;
    }

    static int size(SortDesk desk) {
        return (int) desk.figure(0);
    }

    static String keys(SortDesk desk) {
        return row(desk, false);
    }

    static String tags(SortDesk desk) {
        return row(desk, true);
    }

    private static String row(SortDesk desk, boolean tag) {
        int[] values = new int[size(desk)];
        for (int i = 0; i < values.length; i++) {
            values[i] = desk.at(i, tag);
        }
        return Arrays.toString(values);
    }

    static String trail(SortDesk desk) {
        StringBuilder text = new StringBuilder();
        for (int i = 0; i < desk.steps(); i++) {
            text.append(i == 0 ? "" : " ").append(desk.step(i, 0)).append(',')
                .append(desk.step(i, 1)).append(',').append(desk.step(i, 2));
        }
        return text.toString();
    }

    static String state(SortDesk desk) {
        StringBuilder text = new StringBuilder();
        text.append(keys(desk)).append(tags(desk)).append(trail(desk));
        text.append(" plan ").append(desk.plan()).append(" compared ").append(desk.compared());
        text.append(" astray ").append(desk.astray()).append(" times");
        for (int way = 0; way < 5; way++) {
            text.append(' ').append(desk.times(way));
        }
        return text.toString();
    }

    static void end() {
        System.out.println(wrong == 0 ? done + " answers are as due" : wrong + " answers are not as due");
        if (wrong != 0) {
            System.exit(1);
        }
    }
}
