/** Promises 17 to 19: compared, times, astray. */
public final class CountsTest {
    public static void main(String[] args) {
        compared();
        times();
        wrongWays();
        astray();
        Check.end();
    }

    private static void compared() {
        SortDesk desk = Check.desk(3, 2, 1);
        Check.due("at first", desk.compared(), 0);
        desk.order(0);
        Check.due("after turning", desk.compared(), 2);
        desk.putBack();
        desk.order(1);
        Check.due("after putting in, too", desk.compared(), 5);
        desk.putBack();
        desk.order(2);
        Check.due("after joining, too", desk.compared(), 5 + 1 + 1);
        desk.putBack();
        desk.order(3);
        desk.order(4);
        desk.isFit(0);
        desk.figure(6);
        desk.origin(0);
        desk.below(2);
        desk.plan();
        Check.due("the others compare nothing", desk.compared(), 7);
    }

    private static void times() {
        SortDesk desk = Check.desk(3, 2, 1);
        desk.order(0);
        desk.putBack();
        desk.order(0);
        desk.order(1);
        desk.order(-1);
        desk.order(-1);
        desk.order(-1);
        desk.order(4);
        int[] want = {2, 1, 3, 0, 1};
        for (int way = 0; way < 5; way++) {
            Check.due("times(" + way + ")", desk.times(way), want[way]);
        }
        Check.outcome(() -> desk.order(0));
        Check.due("a refused one is none", desk.times(0), 2);
    }

    private static void wrongWays() {
        SortDesk desk = Check.desk(1);
        for (int way : new int[] {-1, 5, Integer.MIN_VALUE, Integer.MAX_VALUE}) {
            Check.refused("times(" + way + ")", desk, "IllegalArgumentException", () -> desk.times(way));
        }
    }

    private static void astray() {
        Check.due("without an ordering, of items that fall", Check.desk(2, 1).astray(), 0);
        for (int way = 1; way < 5; way++) {
            SortDesk desk = Check.desk(2, 1, 2, -5, 1, 400);
            desk.order(way);
            Check.due("after way " + way, desk.astray(), 0);
            desk.put(-9, 0);
            Check.due("an item behind them is not the ordering's", desk.astray(), 0);
            desk.order(way);
            desk.putBack();
            Check.due("put back after way " + way, desk.astray(), 0);
        }
        SortDesk falling = Check.desk(2, 1);
        falling.order(0);
        Check.due("after turning", falling.astray(), 0);
    }
}
