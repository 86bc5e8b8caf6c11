/** Promise 12: putBack. */
public final class PutBackTest {
    private static final String NOT_NOW = "IllegalStateException";

    public static void main(String[] args) {
        putBackOnce();
        latestOrderingAlone();
        itemsCameOrWent();
        otherCallsBetween();
        noItems();
        Check.end();
    }

    private static void putBackOnce() {
        SortDesk desk = Check.desk(3, 1, 3, 2);
        Check.refused("before any ordering", desk, NOT_NOW, () -> desk.putBack());
        for (int way = 1; way < 5; way++) {
            int compared = desk.order(way);
            long inAll = desk.compared();
            Check.due("put back after way " + way, desk.putBack(), 4);
            Check.due("keys", Check.keys(desk), "[3, 1, 3, 2]");
            Check.due("tags", Check.tags(desk), "[100, 101, 102, 103]");
            Check.due("steps", desk.steps(), 0);
            Check.due("compared stays", desk.compared(), inAll);
            Check.due("times stays", desk.times(way), 1);
            Check.due("astray", desk.astray(), 0);
            Check.refused("a second time", desk, NOT_NOW, () -> desk.putBack());
            Check.due("the same again", desk.order(way), compared);
            desk.putBack();
            Check.due("times of two", desk.times(way), 2);
        }
        SortDesk falling = Check.desk(3, 2, 1);
        falling.order(0);
        falling.putBack();
        Check.due("put back after turning", Check.keys(falling), "[3, 2, 1]");
    }

    private static void latestOrderingAlone() {
        SortDesk desk = Check.desk(2, 1);
        desk.order(2);
        desk.order(4);
        Check.due("after two orderings", desk.putBack(), 2);
        Check.due("as before the latest", Check.keys(desk), "[1, 2]");
        Check.refused("not before the first", desk, NOT_NOW, () -> desk.putBack());
    }

    private static void itemsCameOrWent() {
        SortDesk put = Check.desk(2, 1);
        put.order(2);
        put.put(9, 9);
        Check.refused("an item was put", put, NOT_NOW, () -> put.putBack());
        put.remove(2);
        Check.refused("put and removed", put, NOT_NOW, () -> put.putBack());
        Check.due("the trail stays", Check.trail(put), "2,0,2");
        SortDesk inserted = Check.desk(2, 1);
        inserted.order(2);
        inserted.insert(0, 9, 9);
        Check.refused("an item was inserted", inserted, NOT_NOW, () -> inserted.putBack());
        SortDesk removed = Check.desk(2, 1);
        removed.order(2);
        removed.remove(0);
        Check.refused("an item was removed", removed, NOT_NOW, () -> removed.putBack());
        removed.order(1);
        Check.due("ordered again", removed.putBack(), 1);
    }

    private static void otherCallsBetween() {
        SortDesk desk = orderedFull();
        Check.outcome(() -> desk.put(1, 1));
        Check.outcome(() -> desk.insert(0, 1, 1));
        Check.outcome(() -> desk.insert(-1, 1, 1));
        Check.outcome(() -> desk.remove(150));
        Check.outcome(() -> desk.order(7));
        desk.rule(0, 0, 0, 0);
        desk.forget(0);
        desk.origin(0);
        desk.below(0);
        Check.due("none of these hinders it", desk.putBack(), 150);
        Check.due("the last key", desk.at(149, false), -5);
    }

    private static SortDesk orderedFull() {
        SortDesk desk = Check.full();
        desk.remove(0);
        desk.insert(149, -5, -5);
        desk.order(2);
        return desk;
    }

    private static void noItems() {
        SortDesk desk = new SortDesk();
        desk.order(3);
        Check.due("an ordering of no items", desk.putBack(), 0);
        Check.refused("a second time", desk, NOT_NOW, () -> desk.putBack());
    }
}
