/** Promises 11, 13 and 14: order, steps, step, each way by itself. */
public final class OrderTest {
    private static final int MIN = Integer.MIN_VALUE;
    private static final int MAX = Integer.MAX_VALUE;

    public static void main(String[] args) {
        fewItems();
        turning();
        puttingIn();
        joining();
        counting();
        byBytes();
        fullRows();
        byPlan();
        refusals();
        steps();
        Check.end();
    }

    private static void ordered(String name, SortDesk desk, int way, int compared, String trail) {
        Check.due(name + ": order", desk.order(way), compared);
        Check.due(name + ": trail", Check.trail(desk), trail);
        Check.due(name + ": inversions left", desk.figure(6), 0);
    }

    private static void fewItems() {
        for (int way = 0; way < 5; way++) {
            ordered("no items, way " + way, Check.desk(), way, 0, "");
            ordered("one item, way " + way, Check.desk(MIN), way, 0, "");
        }
    }

    private static void turning() {
        ordered("two", Check.desk(2, 1), 0, 1, "0,0,2");
        SortDesk desk = Check.desk(MAX, 4, 0, -4, MIN);
        ordered("five", desk, 0, 4, "0,0,5");
        Check.due("tags of five", Check.tags(desk), "[104, 103, 102, 101, 100]");
        ordered("four", Check.desk(9, 8, 7, 6), 0, 3, "0,0,4");
    }

    private static void puttingIn() {
        ordered("in order", Check.desk(1, 2, 3), 1, 2, "");
        ordered("the same", Check.desk(3, 3, 3), 1, 2, "");
        ordered("falling", Check.desk(3, 2, 1), 1, 3, "1,1,0 1,2,0");
        SortDesk desk = Check.desk(2, 4, 1, 2, MIN, MAX);
        ordered("mixed", desk, 1, 1 + 2 + 2 + 4 + 1, "1,2,0 1,3,2 1,4,0");
        Check.due("mixed keys", Check.keys(desk), "[-2147483648, 1, 2, 2, 4, 2147483647]");
        Check.due("mixed tags", Check.tags(desk), "[104, 102, 100, 103, 101, 105]");
    }

    private static void joining() {
        ordered("in order", Check.desk(1, 2, 2, 3), 2, 0, "");
        ordered("two runs", Check.desk(1, 3, 2, 4), 2, 3, "2,0,4");
        ordered("first run used up late", Check.desk(5, 6, 1), 2, 1, "2,0,3");
        SortDesk desk = Check.desk(2, 2, 1, 2, 1);
        ordered("an odd run", desk, 2, 3 + 2, "2,0,4 2,0,5");
        Check.due("an odd run's tags", Check.tags(desk), "[102, 104, 100, 101, 103]");
        ordered("an odd run, then an even one", Check.desk(2, 1, 4, 3), 2, 2 + 3, "2,0,3 2,0,4");
        ordered("five falling", Check.desk(5, 4, 3, 2, 1), 2, 1 + 1 + 2 + 1,
            "2,0,2 2,2,4 2,0,4 2,0,5");
        ordered("extreme keys", Check.desk(MAX, MIN), 2, 1, "2,0,2");
    }

    private static void counting() {
        ordered("no key twice", Check.desk(3, 1, 2), 3, 0, "");
        SortDesk desk = Check.desk(2, -1, 2, -1, 0, -1);
        ordered("keys twice", desk, 3, 0, "3,-1,3 3,2,2");
        Check.due("tags", Check.tags(desk), "[101, 103, 105, 104, 100, 102]");
        ordered("500 apart", Check.desk(MAX, MAX - 500, MAX, MAX - 500), 3, 0,
            "3," + (MAX - 500) + ",2 3," + MAX + ",2");
        ordered("at the bottom", Check.desk(MIN + 500, MIN, MIN), 3, 0, "3," + MIN + ",2");
        SortDesk again = Check.desk(1, 1, 0);
        ordered("first", again, 3, 0, "3,1,2");
        ordered("once more, without what was counted before", again, 3, 0, "3,1,2");
    }

    private static void byBytes() {
        ordered("the same", Check.desk(5, 5), 4, 0, "");
        SortDesk desk = Check.desk(0x01020304, -1, 0x01020304, 0, MIN, MAX, 0x01030304);
        ordered("all bytes", desk, 4, 0, "4,0,3 4,1,3 4,2,4 4,3,5");
        Check.due("all bytes, tags", Check.tags(desk), "[104, 101, 103, 100, 102, 106, 105]");
        ordered("one byte", Check.desk(0x200, 0x100, 0x300, 0x100), 4, 0, "4,1,3");
        ordered("the sign alone", Check.desk(0, MIN), 4, 0, "4,3,2");
        ordered("bytes above 127 below the highest", Check.desk(0xff, 0x7f, 0x8000, 0x800000), 4, 0,
            "4,0,3 4,1,2 4,2,2");
    }

    private static void fullRows() {
        SortDesk falling = new SortDesk();
        for (int i = 0; i < 150; i++) {
            falling.put(-i, i);
        }
        Check.due("150: turning", falling.order(0), 149);
        falling.putBack();
        Check.due("150: joining", falling.order(2) > 0, true);
        Check.due("150: joinings", falling.steps(), 149);
        Check.due("150: the last step", falling.step(148, 2), 150);
        Check.due("150: inversions left", falling.figure(6), 0);
        SortDesk pairs = new SortDesk();
        for (int i = 0; i < 150; i++) {
            pairs.put((i * 7) % 75, i);
        }
        Check.due("75 keys twice", pairs.order(3), 0);
        Check.due("75 keys twice: steps", pairs.steps(), 75);
    }

    private static void byPlan() {
        SortDesk desk = Check.desk(3, 1, 2);
        desk.rule(0, 3, 3, 0);
        desk.rule(0, 3, 3, 1);
        ordered("by the plan", desk, SortDesk.NONE, 3, "1,1,0 1,2,1");
        Check.due("times(1)", desk.times(1), 1);
        SortDesk without = Check.desk(3, 1, 2);
        ordered("without rules", without, -1, 2, "2,0,3");
        Check.due("times(2)", without.times(2), 1);
    }

    private static void refusals() {
        SortDesk desk = Check.desk(3, 1, 2000);
        desk.order(1);
        desk.putBack();
        desk.order(2);
        for (int way : new int[] {-2, 5, MIN, MAX}) {
            Check.refused("order(" + way + ")", desk, "IllegalArgumentException", () -> desk.order(way));
        }
        Check.refused("turning, not fit", desk, "IllegalStateException", () -> desk.order(0));
        Check.refused("counting, not fit", desk, "IllegalStateException", () -> desk.order(3));
        Check.refused("putting in, not fit", Check::full, "IllegalStateException", full -> full.order(1));
        Check.due("put back after refusals", desk.putBack(), 3);
        Check.due("keys put back", Check.keys(desk), "[3, 1, 2000]");
    }

    private static void steps() {
        SortDesk desk = Check.desk(3, 2, 1);
        desk.order(1);
        Check.due("steps", desk.steps(), 2);
        for (int i : new int[] {-1, 2, MIN, MAX}) {
            Check.refused("step(" + i + ", 0)", desk, "IndexOutOfBoundsException", () -> desk.step(i, 0));
        }
        for (int what : new int[] {-1, 3, MIN, MAX}) {
            Check.refused("step(0, " + what + ")", desk, "IndexOutOfBoundsException", () -> desk.step(0, what));
        }
        Check.refused("step(1, -1)", desk, "IndexOutOfBoundsException", () -> desk.step(1, -1));
        desk.put(0, 0);
        desk.remove(1);
        Check.due("the trail stays when items come and go", Check.trail(desk), "1,1,0 1,2,0");
        desk.order(2);
        Check.due("the trail of the latest alone", Check.trail(desk), "2,0,3");
        desk.order(2);
        Check.due("the trail of one without steps", desk.steps(), 0);
    }
}
