/** Promises 15 and 16: origin, below. */
public final class AskingTest {
    private static final int MIN = Integer.MIN_VALUE;
    private static final int MAX = Integer.MAX_VALUE;

    public static void main(String[] args) {
        origin();
        originBeforeOrdering();
        below();
        belowInARowThatFalls();
        Check.end();
    }

    private static void origin() {
        SortDesk desk = Check.desk(5, MAX, 5, MIN, 0, 5);
        desk.order(4);
        desk.putBack();
        String state = Check.state(desk);
        int[] want = {3, 4, 0, 2, 5, 1};
        for (int place = 0; place < want.length; place++) {
            Check.due("origin(" + place + ")", desk.origin(place), want[place]);
        }
        Check.due("nothing is changed", Check.state(desk), state);
        for (int place : new int[] {-1, 6, 150, MIN, MAX}) {
            Check.refused("origin(" + place + ")", desk, "IndexOutOfBoundsException", () -> desk.origin(place));
        }
        SortDesk none = new SortDesk();
        Check.refused("origin(0) of none", none, "IndexOutOfBoundsException", () -> none.origin(0));
    }

    private static void originBeforeOrdering() {
        SortDesk desk = new SortDesk();
        for (int i = 0; i < 150; i++) {
            desk.put((i * 37) % 50, i);
        }
        int[] origins = new int[150];
        for (int i = 0; i < 150; i++) {
            origins[i] = desk.origin(i);
        }
        desk.order(2);
        desk.origin(7);
        Check.due("the trail stays", desk.steps() > 0, true);
        for (int i = 0; i < 150; i++) {
            Check.due("the item at " + i, desk.at(i, true), origins[i]);
        }
    }

    private static void below() {
        SortDesk none = new SortDesk();
        Check.due("below in no items", none.below(MAX), 0);
        SortDesk one = Check.desk(4);
        Check.due("below its key", one.below(4), 0);
        Check.due("below one more", one.below(5), 1);
        SortDesk desk = Check.desk(MIN, -3, 2, 2, 2, 7, MAX);
        Check.due("below the least int", desk.below(MIN), 0);
        Check.due("below -3", desk.below(-3), 1);
        Check.due("below 2", desk.below(2), 2);
        Check.due("below 3", desk.below(3), 5);
        Check.due("below the greatest int", desk.below(MAX), 6);
        Check.due("compared", desk.compared(), 0);
    }

    private static void belowInARowThatFalls() {
        Check.due("falls at its end", Check.desk(1, 2, 1).below(5), SortDesk.NONE);
        Check.due("falls at its front", Check.desk(2, 1, 3).below(5), SortDesk.NONE);
        SortDesk desk = Check.desk(MAX, MIN);
        Check.due("falls all along", desk.below(MIN), SortDesk.NONE);
        desk.order(0);
        Check.due("once it is ordered", desk.below(0), 1);
        desk.putBack();
        Check.due("once it is put back", desk.below(0), SortDesk.NONE);
    }
}
