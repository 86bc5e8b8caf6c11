/** Promises 7 to 9: rule, forget, plan. */
public final class RulesTest {
    private static final String WRONG = "IllegalArgumentException";
    private static final String FULL = "UnsupportedOperationException";

    public static void main(String[] args) {
        rule();
        forget();
        forgetOneOfAll();
        planByBounds();
        planByEachFigure();
        planByFitness();
        Check.end();
    }

    private static void rule() {
        SortDesk desk = Check.desk(1, 2);
        for (int figure : new int[] {-1, 8, Integer.MIN_VALUE, Integer.MAX_VALUE}) {
            Check.refused("rule of figure " + figure, desk, WRONG, () -> desk.rule(figure, 0, 9, 2));
        }
        for (int way : new int[] {-1, 5, Integer.MIN_VALUE, Integer.MAX_VALUE}) {
            Check.refused("rule of way " + way, desk, WRONG, () -> desk.rule(0, 0, 9, way));
        }
        for (int i = 0; i < 12; i++) {
            Check.due("rule " + i, desk.rule(i % 8, 9, 0, i % 5), i);
        }
        Check.refused("rule, 12 there", desk, FULL, () -> desk.rule(0, 0, 9, 4));
        Check.refused("rule of no figure, 12 there", desk, WRONG, () -> desk.rule(8, 0, 9, 4));
        Check.refused("rule of no way, 12 there", desk, WRONG, () -> desk.rule(0, 0, 9, 5));
        Check.due("forget makes room", desk.forget(11), 11);
        Check.due("rule 11 again", desk.rule(0, 2, 2, 4), 11);
        Check.due("plan by the last rule", desk.plan(), 4);
    }

    private static void forget() {
        SortDesk desk = Check.desk(1, 2);
        desk.rule(0, 2, 2, 4);
        desk.rule(0, 2, 2, 3);
        desk.rule(0, 2, 2, 1);
        Check.refused("forget(3)", desk, "IndexOutOfBoundsException", () -> desk.forget(3));
        Check.refused("forget(-1)", desk, "IndexOutOfBoundsException", () -> desk.forget(-1));
        Check.refused("forget(12)", desk, "IndexOutOfBoundsException", () -> desk.forget(12));
        Check.due("plan", desk.plan(), 4);
        Check.due("forget(1)", desk.forget(1), 2);
        Check.due("plan with the first still there", desk.plan(), 4);
        Check.due("forget(0)", desk.forget(0), 1);
        Check.due("plan by what was the third", desk.plan(), 1);
        Check.due("forget the last", desk.forget(0), 0);
        Check.due("plan without rules", desk.plan(), 2);
        Check.refused("forget(0) of none", desk, "IndexOutOfBoundsException", () -> desk.forget(0));
    }

    // Rule i is for rows of i items, told by their number or by the greatest key; each part of a
    // rule must come along when its number changes.
    private static void forgetOneOfAll() {
        SortDesk desk = new SortDesk();
        for (int i = 0; i < 12; i++) {
            if (i % 2 == 0) {
                desk.rule(0, i, i, 4);
            } else {
                desk.rule(4, 1000 + i, 1000 + i, 1);
            }
        }
        Check.due("forget(5) of 12", desk.forget(5), 11);
        for (int i = 0; i < 12; i++) {
            int want = i == 5 ? 2 : i % 2 == 0 ? 4 : 1;
            Check.due("plan for " + i + " items", desk.plan(), want);
            desk.put(1001 + i, 0);
        }
    }

    private static void planByBounds() {
        Check.due("figure at its least", planOf(0, 2, 5, 4), 4);
        Check.due("figure at its most", planOf(0, 0, 2, 4), 4);
        Check.due("figure below its least", planOf(0, 3, 5, 4), 2);
        Check.due("figure above its most", planOf(0, 0, 1, 4), 2);
        Check.due("least above most", planOf(0, 3, 1, 4), 2);
        Check.due("all longs", planOf(0, Long.MIN_VALUE, Long.MAX_VALUE, 4), 4);
        Check.due("longs beyond ints", planOf(0, 2 + (1L << 32), Long.MAX_VALUE, 4), 2);
    }

    private static int planOf(int figure, long least, long most, int way) {
        SortDesk desk = Check.desk(1, 7);
        desk.rule(figure, least, most, way);
        return desk.plan();
    }

    private static void planByEachFigure() {
        int[] keys = {5, 3, 3, 1, 9, 1, 5};
        for (int figure = 0; figure < 8; figure++) {
            SortDesk desk = Check.desk(keys);
            long value = desk.figure(figure);
            desk.rule(figure, value + 1, Long.MAX_VALUE, 1);
            desk.rule(figure, Long.MIN_VALUE, value - 1, 1);
            Check.due("plan beside figure " + figure, desk.plan(), 2);
            desk.rule(figure, value, value, 4);
            Check.due("plan by figure " + figure, desk.plan(), 4);
        }
    }

    private static void planByFitness() {
        SortDesk desk = Check.desk(1, 1000);
        desk.rule(0, 0, 9, 0);
        desk.rule(0, 0, 9, 3);
        Check.due("plan, none fit", desk.plan(), 2);
        desk.rule(0, 0, 9, 1);
        desk.rule(0, 0, 9, 4);
        Check.due("plan, the first that is fit", desk.plan(), 1);
        desk.remove(1);
        Check.due("plan, all fit", desk.plan(), 0);
        Check.due("compared by none of them", desk.compared(), 0);
    }
}
