/** Promise 10: isFit. */
public final class FitTest {
    public static void main(String[] args) {
        fit("no items", Check.desk(), true, true, true);
        fit("one item", Check.desk(7), true, true, true);
        fit("two that fall", Check.desk(7, 6), true, true, true);
        fit("two that rise", Check.desk(6, 7), false, true, true);
        fit("two the same", Check.desk(7, 7), false, true, true);
        fit("a fall with one rise", Check.desk(7, 6, 8, 5), false, true, true);
        fit("a fall with one key twice", Check.desk(7, 6, 6, 5), false, true, true);
        fit("500 apart", Check.desk(-250, 250), false, true, true);
        fit("501 apart", Check.desk(-250, 251), false, true, false);
        fit("extreme keys", Check.desk(Integer.MAX_VALUE, Integer.MIN_VALUE), true, true, false);
        fit("extreme keys, rising", Check.desk(Integer.MIN_VALUE, Integer.MAX_VALUE), false, true, false);
        fit("500 apart at the top", Check.desk(Integer.MAX_VALUE, Integer.MAX_VALUE - 500), true, true, true);
        fit("500 apart at the bottom", Check.desk(Integer.MIN_VALUE, Integer.MIN_VALUE + 500), false, true, true);
        manyItems();
        wrongWays();
        Check.end();
    }

    private static void fit(String name, SortDesk desk, boolean turning, boolean puttingIn, boolean counting) {
        Check.due(name + ": isFit(0)", desk.isFit(0), turning);
        Check.due(name + ": isFit(1)", desk.isFit(1), puttingIn);
        Check.due(name + ": isFit(2)", desk.isFit(2), true);
        Check.due(name + ": isFit(3)", desk.isFit(3), counting);
        Check.due(name + ": isFit(4)", desk.isFit(4), true);
        Check.due(name + ": compared", desk.compared(), 0);
    }

    private static void manyItems() {
        SortDesk desk = new SortDesk();
        for (int i = 0; i < 60; i++) {
            desk.put(-10 * i, i);
        }
        fit("60 that fall", desk, true, true, false);
        desk.put(-600, 60);
        fit("61 that fall", desk, true, false, false);
        desk.remove(0);
        fit("60 again", desk, true, true, false);
        fit("150 items", Check.full(), false, false, true);
    }

    private static void wrongWays() {
        SortDesk desk = Check.desk(1, 2);
        for (int way : new int[] {-1, 5, Integer.MIN_VALUE, Integer.MAX_VALUE}) {
            Check.refused("isFit(" + way + ")", desk, "IllegalArgumentException", () -> desk.isFit(way) ? 1 : 0);
        }
    }
}
