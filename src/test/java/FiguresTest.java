/** Promise 6: figure. */
public final class FiguresTest {
    public static void main(String[] args) {
        figures("no items", 0, 0, 0, 0, 0, 0, 0, 0, Check.desk());
        figures("one item", 1, 1, 0, -4, -4, 0, 0, 1, Check.desk(-4));
        figures("one that rises", 3, 1, 0, 1, 3, 0, 0, 3, Check.desk(1, 2, 3));
        figures("one that falls", 3, 3, 1, 1, 3, 2, 3, 3, Check.desk(3, 2, 1));
        figures("the same key", 3, 1, 0, 5, 5, 0, 0, 1, Check.desk(5, 5, 5));
        figures("falls apart by one key", 4, 3, 2, 1, 3, 2, 5, 3, Check.desk(3, 2, 2, 1));
        figures("falls one behind the other", 6, 5, 2, 1, 6, 4, 6, 6, Check.desk(3, 2, 1, 6, 5, 4));
        figures("extreme keys", 2, 2, 1, Integer.MIN_VALUE, Integer.MAX_VALUE, 1, 1, 2,
            Check.desk(Integer.MAX_VALUE, Integer.MIN_VALUE));
        figures("mixed", 7, 4, 3, 1, 9, 3, 10, 4, Check.desk(5, 3, 3, 1, 9, 1, 5));
        SortDesk falling = new SortDesk();
        for (int i = 0; i < 150; i++) {
            falling.put(-i, i);
        }
        figures("150 that fall", 150, 150, 1, -149, 0, 149, 11175, 150, falling);
        afterRemoving();
        wrongFigures();
        Check.end();
    }

    private static void figures(String name, long count, long runs, long falls, long least, long most,
            long drops, long inversions, long different, SortDesk desk) {
        long[] want = {count, runs, falls, least, most, drops, inversions, different};
        for (int what = 0; what < want.length; what++) {
            Check.due(name + ": figure(" + what + ")", desk.figure(what), want[what]);
        }
        Check.due(name + ": compared", desk.compared(), 0);
    }

    private static void afterRemoving() {
        SortDesk desk = Check.desk(9, -9, 3);
        desk.remove(0);
        figures("one gone", 2, 1, 0, -9, 3, 0, 0, 2, desk);
        desk.remove(0);
        desk.remove(0);
        figures("all gone", 0, 0, 0, 0, 0, 0, 0, 0, desk);
    }

    private static void wrongFigures() {
        SortDesk desk = Check.desk(2, 1);
        for (int what : new int[] {-1, 8, Integer.MIN_VALUE, Integer.MAX_VALUE}) {
            Check.refused("figure(" + what + ")", desk, "IllegalArgumentException", () -> desk.figure(what));
        }
    }
}
