/** Promises 1 to 5: a new object, put, insert, remove, at. */
public final class ItemsTest {
    private static final String NO_PLACE = "IndexOutOfBoundsException";
    private static final String FULL = "UnsupportedOperationException";

    public static void main(String[] args) {
        newObject();
        put();
        insert();
        remove();
        at();
        Check.end();
    }

    private static void newObject() {
        SortDesk desk = new SortDesk();
        Check.due("NONE", SortDesk.NONE, -1);
        Check.due("a new object", Check.state(desk), "[][] plan 2 compared 0 astray 0 times 0 0 0 0 0");
        Check.refused("new: at(0)", desk, NO_PLACE, () -> desk.at(0, false));
        Check.refused("new: step(0, 0)", desk, NO_PLACE, () -> desk.step(0, 0));
        Check.refused("new: forget(0)", desk, NO_PLACE, () -> desk.forget(0));
        SortDesk other = new SortDesk();
        desk.put(1, 1);
        desk.rule(0, 0, 9, 4);
        Check.due("another object's items", Check.size(other), 0);
        Check.due("another object's plan", other.plan(), 2);
    }

    private static void put() {
        SortDesk desk = new SortDesk();
        for (int i = 0; i < 150; i++) {
            Check.due("put " + i, desk.put(1000 - i, -i), i);
        }
        Check.due("first key", desk.at(0, false), 1000);
        Check.due("last key", desk.at(149, false), 851);
        Check.due("last tag", desk.at(149, true), -149);
        Check.refused("put, 150 there", Check::full, FULL, full -> full.put(1, 1));
        desk.remove(3);
        Check.due("put after remove", desk.put(7, 8), 149);
        SortDesk extremes = new SortDesk();
        extremes.put(Integer.MIN_VALUE, Integer.MAX_VALUE);
        extremes.put(Integer.MAX_VALUE, Integer.MIN_VALUE);
        Check.due("extreme keys", Check.keys(extremes), "[-2147483648, 2147483647]");
        Check.due("extreme tags", Check.tags(extremes), "[2147483647, -2147483648]");
    }

    private static void insert() {
        SortDesk desk = new SortDesk();
        Check.refused("insert(1) of none", desk, NO_PLACE, () -> desk.insert(1, 0, 0));
        Check.refused("insert(-1) of none", desk, NO_PLACE, () -> desk.insert(-1, 0, 0));
        Check.due("insert the first", desk.insert(0, 5, 50), 1);
        Check.due("insert in front", desk.insert(0, 3, 30), 2);
        Check.due("insert behind", desk.insert(2, 9, 90), 3);
        Check.due("insert between", desk.insert(1, 4, 40), 4);
        Check.due("keys", Check.keys(desk), "[3, 4, 5, 9]");
        Check.due("tags", Check.tags(desk), "[30, 40, 50, 90]");
        Check.refused("insert(5) of 4", desk, NO_PLACE, () -> desk.insert(5, 0, 0));
        Check.refused("insert(min)", desk, NO_PLACE, () -> desk.insert(Integer.MIN_VALUE, 0, 0));
        Check.refused("insert(max)", desk, NO_PLACE, () -> desk.insert(Integer.MAX_VALUE, 0, 0));
        Check.refused("insert(0) of 150", Check::full, FULL, all -> all.insert(0, 0, 0));
        Check.refused("insert(150) of 150", Check::full, FULL, all -> all.insert(150, 0, 0));
        Check.refused("insert(151) of 150", Check::full, NO_PLACE, all -> all.insert(151, 0, 0));
        Check.refused("insert(-1) of 150", Check::full, NO_PLACE, all -> all.insert(-1, 0, 0));
        SortDesk full = Check.full();
        full.remove(149);
        Check.due("insert the 150th", full.insert(0, -1, -1), 150);
        Check.due("the last of 150", full.at(149, false), 148);
    }

    private static void remove() {
        SortDesk desk = Check.desk(7, 8, 9, 10);
        Check.due("remove(1)", desk.remove(1), 8);
        Check.due("keys", Check.keys(desk), "[7, 9, 10]");
        Check.due("tags", Check.tags(desk), "[100, 102, 103]");
        Check.refused("remove(3) of 3", desk, NO_PLACE, () -> desk.remove(3));
        Check.refused("remove(-1)", desk, NO_PLACE, () -> desk.remove(-1));
        Check.due("remove the last", desk.remove(2), 10);
        Check.due("remove the first", desk.remove(0), 7);
        Check.due("remove the only one", desk.remove(0), 9);
        Check.refused("remove(0) of none", desk, NO_PLACE, () -> desk.remove(0));
        SortDesk full = Check.full();
        Check.due("remove(0) of 150", full.remove(0), 0);
        Check.due("remove(148) of 149", full.remove(148), 149);
        Check.due("how many are left", Check.size(full), 148);
    }

    private static void at() {
        SortDesk desk = Check.desk(7, 8);
        Check.due("at(1, false)", desk.at(1, false), 8);
        Check.due("at(1, true)", desk.at(1, true), 101);
        Check.refused("at(2)", desk, NO_PLACE, () -> desk.at(2, true));
        Check.refused("at(-1)", desk, NO_PLACE, () -> desk.at(-1, false));
        Check.refused("at(150)", desk, NO_PLACE, () -> desk.at(150, false));
        Check.refused("at(150) of 150", Check::full, NO_PLACE, full -> full.at(150, false));
    }
}
