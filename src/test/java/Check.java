import java.util.Arrays;

/** What the tests share: they tell every answer that is not the one that is due. */
final class Check {
    interface Call {
        long answer();
    }

    private static int wrong = 0;
    private static int done = 0;

    private Check() {
    }

    static void due(String what, long got, long want) {
        done++;
        if (got != want) {
            wrong++;
            System.out.println(what + " answered " + got + ", due is " + want);
        }
    }

    static void due(String what, String got, String want) {
        done++;
        if (!got.equals(want)) {
            wrong++;
            System.out.println(what + " answered " + got + ", due is " + want);
        }
    }

    static void due(String what, boolean got, boolean want) {
        due(what, got ? 1 : 0, want ? 1 : 0);
    }

    /** The answer, or the name of the very class that was thrown, so that a subclass is seen. */
    static String outcome(Call call) {
        try {
            return Long.toString(call.answer());
        } catch (RuntimeException e) {
            return "throws." + e.getClass().getSimpleName();
        }
    }

    /** The call throws this exception, no other and no subclass, and changes nothing to be seen. */
    static void refused(String what, SortDesk desk, String exception, Call call) {
        String before = state(desk);
        due(what, outcome(call), "throws." + exception);
        due(what + ", state after it", state(desk), before);
    }

    static SortDesk desk(int... keys) {
        SortDesk desk = new SortDesk();
        for (int i = 0; i < keys.length; i++) {
            desk.put(keys[i], 100 + i);
        }
        return desk;
    }

    static SortDesk full() {
        SortDesk desk = new SortDesk();
        for (int i = 0; i < 150; i++) {
            desk.put(i, i);
        }
        return desk;
    }

    static int size(SortDesk desk) {
        return (int) desk.figure(0);
    }

    static String keys(SortDesk desk) {
        return row(desk, false);
    }

    static String tags(SortDesk desk) {
        return row(desk, true);
    }

    private static String row(SortDesk desk, boolean tag) {
        int[] values = new int[size(desk)];
        for (int i = 0; i < values.length; i++) {
            values[i] = desk.at(i, tag);
        }
        return Arrays.toString(values);
    }

    static String trail(SortDesk desk) {
        StringBuilder text = new StringBuilder();
        for (int i = 0; i < desk.steps(); i++) {
            text.append(i == 0 ? "" : " ").append(desk.step(i, 0)).append(',')
                .append(desk.step(i, 1)).append(',').append(desk.step(i, 2));
        }
        return text.toString();
    }

    static String state(SortDesk desk) {
        StringBuilder text = new StringBuilder();
        text.append(keys(desk)).append(tags(desk)).append(trail(desk));
        text.append(" plan ").append(desk.plan()).append(" compared ").append(desk.compared());
        text.append(" astray ").append(desk.astray()).append(" times");
        for (int way = 0; way < 5; way++) {
            text.append(' ').append(desk.times(way));
        }
        return text.toString();
    }

    static void end() {
        System.out.println(wrong == 0 ? done + " answers are as due" : wrong + " answers are not as due");
        if (wrong != 0) {
            System.exit(1);
        }
    }
}
