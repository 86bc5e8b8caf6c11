/** The boundary cases of 'What it is' and of 'Terms' (the ways are in WaysBoundaryTest). */
public final class TermsBoundaryTest {
    private static final int MIN = Integer.MIN_VALUE;
    private static final int MAX = Integer.MAX_VALUE;
    private static final String NO_PLACE = "IndexOutOfBoundsException";
    private static final String WRONG = "IllegalArgumentException";
    private static final String NOT_NOW = "IllegalStateException";
    private static final String FULL = "UnsupportedOperationException";

    public static void main(String[] args) {
        Check.all(
            TermsBoundaryTest::the512thCall,
            TermsBoundaryTest::items,
            TermsBoundaryTest::howMany,
            TermsBoundaryTest::runs,
            TermsBoundaryTest::falls,
            TermsBoundaryTest::leastKey,
            TermsBoundaryTest::greatestKey,
            TermsBoundaryTest::itemsAbove,
            TermsBoundaryTest::inversions,
            TermsBoundaryTest::differentKeys,
            TermsBoundaryTest::withoutItems,
            TermsBoundaryTest::rules,
            TermsBoundaryTest::planBetween,
            TermsBoundaryTest::planFirst,
            TermsBoundaryTest::planFit,
            TermsBoundaryTest::planNone,
            TermsBoundaryTest::noSuchPlace,
            TermsBoundaryTest::noSuchRule,
            TermsBoundaryTest::noSuchStep,
            TermsBoundaryTest::severalExceptions,
            TermsBoundaryTest::nothingChanged,
            TermsBoundaryTest::nothingChangedInAFullDesk);
    }

    private static void the512thCall() {
        Check.sentence("An object is used for at most 512 calls after it has been made");
        SortDesk desk = Check.falling(150);
        for (int i = 0; i < 180; i++) {
            Check.due("ordering " + i, desk.order(2), 515);
            Check.due("putting back " + i, desk.putBack(), 150);
        }
        Check.due("call 511", desk.order(0), 149);
        Check.due("call 512", desk.compared(), 180 * 515 + 149);
    }

    private static void items() {
        Check.sentence("ITEMS stand at places 0, 1, .., 150 at most, each with a KEY and a TAG, ints.");
        SortDesk desk = Check.full();
        Check.due("the first", desk.at(0, true), 0);
        Check.due("the last", desk.at(149, true), 149);
        Check.refused("behind the last", Check::full, NO_PLACE, full -> full.at(150, true));
        SortDesk extremes = new SortDesk();
        extremes.put(MIN, MAX);
        extremes.insert(0, MAX, MIN);
        Check.due("extreme keys", Check.keys(extremes), "[2147483647, -2147483648]");
        Check.due("extreme tags", Check.tags(extremes), "[-2147483648, 2147483647]");
    }

    private static void howMany() {
        Check.sentence("0 how many items");
        Check.due("none", new SortDesk().figure(0), 0);
        Check.due("one", Check.desk(-7).figure(0), 1);
        Check.due("all", Check.full().figure(0), 150);
    }

    private static void runs() {
        Check.sentence("1 RUNS, rows of items one behind the other, as long as can be, that do not fall");
        Check.due("one item", Check.desk(MIN).figure(1), 1);
        Check.due("the same key does not fall", Check.same(150, 3).figure(1), 1);
        Check.due("a run of the first item alone", Check.desk(2, 1, 1).figure(1), 2);
        Check.due("a run of the last item alone", Check.desk(1, 1, 0).figure(1), 2);
        Check.due("from the least int to the greatest", Check.desk(MIN, MAX).figure(1), 1);
        Check.due("from the greatest int to the least", Check.desk(MAX, MIN).figure(1), 2);
        Check.due("the longest run", Check.full().figure(1), 1);
        Check.due("the most runs", Check.falling(150).figure(1), 150);
    }

    private static void falls() {
        Check.sentence("2 FALLS, rows of two or more, as long as can be, that fall at each step");
        Check.due("one item", Check.desk(9).figure(2), 0);
        Check.due("two that fall", Check.desk(2, 1).figure(2), 1);
        Check.due("two with the same key", Check.desk(1, 1).figure(2), 0);
        Check.due("two that rise", Check.desk(1, 2).figure(2), 0);
        Check.due("at the front alone", Check.desk(2, 1, 1, 2).figure(2), 1);
        Check.due("at the end alone", Check.desk(1, 2, 2, 1).figure(2), 1);
        Check.due("the same key between", Check.desk(3, 2, 2, 1).figure(2), 2);
        Check.due("from the greatest int to the least", Check.desk(MAX, MIN).figure(2), 1);
        Check.due("from the least int to the greatest", Check.desk(MIN, MAX).figure(2), 0);
        Check.due("the longest fall", Check.falling(150).figure(2), 1);
        SortDesk pairs = new SortDesk();
        for (int i = 0; i < 150; i++) {
            pairs.put(-(i % 2), i);
        }
        Check.due("the most falls", pairs.figure(2), 75);
    }

    private static void leastKey() {
        Check.sentence("3 the least key");
        Check.due("above 0", Check.desk(8, 7).figure(3), 7);
        Check.due("the first of all", Check.desk(-8, 7, 0).figure(3), -8);
        Check.due("the last of all", Check.desk(8, 7, -9).figure(3), -9);
        Check.due("the least int", Check.desk(MAX, MIN, 0).figure(3), MIN);
        Check.due("the greatest int", Check.desk(MAX).figure(3), MAX);
    }

    private static void greatestKey() {
        Check.sentence("4 the greatest key");
        Check.due("below 0", Check.desk(-8, -7).figure(4), -7);
        Check.due("the first of all", Check.desk(8, 7, 0).figure(4), 8);
        Check.due("the last of all", Check.desk(-8, 7, 9).figure(4), 9);
        Check.due("the greatest int", Check.desk(MIN, MAX, 0).figure(4), MAX);
        Check.due("the least int", Check.desk(MIN).figure(4), MIN);
    }

    private static void itemsAbove() {
        Check.sentence("5 how many items are above the one behind them");
        Check.due("one item", Check.desk(5).figure(5), 0);
        Check.due("the same key", Check.desk(5, 5).figure(5), 0);
        Check.due("the first", Check.desk(5, 4, 4).figure(5), 1);
        Check.due("the last but one", Check.desk(4, 5, 4).figure(5), 1);
        Check.due("not above one further behind", Check.desk(5, 6, 4).figure(5), 1);
        Check.due("the greatest int above the least", Check.desk(MAX, MIN).figure(5), 1);
        Check.due("the least int below the greatest", Check.desk(MIN, MAX).figure(5), 0);
        Check.due("the most", Check.falling(150).figure(5), 149);
    }

    private static void inversions() {
        Check.sentence("6 INVERSIONS, how many pairs of places have the greater key first");
        Check.due("one item", Check.desk(5).figure(6), 0);
        Check.due("the same key", Check.desk(5, 5, 5).figure(6), 0);
        Check.due("the first and the last", Check.desk(2, 3, 1).figure(6), 2);
        Check.due("the greatest int before the least", Check.desk(MAX, MIN).figure(6), 1);
        Check.due("the least int before the greatest", Check.desk(MIN, MAX).figure(6), 0);
        Check.due("the most", Check.falling(150).figure(6), 150 * 149 / 2);
    }

    private static void differentKeys() {
        Check.sentence("7 how many different keys");
        Check.due("one item", Check.desk(0).figure(7), 1);
        Check.due("150 items of one key", Check.same(150, MIN).figure(7), 1);
        Check.due("the first and the last the same", Check.desk(4, 5, 4).figure(7), 2);
        Check.due("extreme keys", Check.desk(MIN, MAX, MIN, MAX).figure(7), 2);
        Check.due("the most", Check.full().figure(7), 150);
    }

    private static void withoutItems() {
        Check.sentence("Without items all are 0.");
        SortDesk emptied = Check.desk(9, -7, 9);
        emptied.order(2);
        emptied.remove(2);
        emptied.remove(0);
        emptied.remove(0);
        for (int what = 0; what < 8; what++) {
            Check.due("figure " + what + " of a new desk", new SortDesk().figure(what), 0);
            Check.due("figure " + what + " when all have gone", emptied.figure(what), 0);
        }
    }

    private static void rules() {
        Check.sentence("RULES have numbers 0, 1, .., 12 at most: a figure, a least and a most, a way.");
        SortDesk desk = new SortDesk();
        for (int i = 0; i < 12; i++) {
            Check.due("rule " + i, desk.rule(0, i, i, 4), i);
        }
        for (int i = 0; i < 12; i++) {
            Check.due("plan by rule " + i, desk.plan(), 4);
            desk.put(i, i);
        }
        Check.due("plan by none of them", desk.plan(), 2);
        Check.due("a rule of extreme bounds", planOf(0, Long.MIN_VALUE, Long.MAX_VALUE), 4);
    }

    private static void planBetween() {
        Check.sentence("the first rule whose figure is between its least and its most (these, too)");
        Check.due("at its least", planOf(0, 2, 9), 4);
        Check.due("one below its least", planOf(0, 3, 9), 2);
        Check.due("at its most", planOf(0, -9, 2), 4);
        Check.due("one above its most", planOf(0, -9, 1), 2);
        Check.due("at both", planOf(0, 2, 2), 4);
        Check.due("least above most, round it", planOf(0, 3, 1), 2);
        Check.due("the least long as most", planOf(3, Long.MIN_VALUE, Long.MIN_VALUE), 2);
        Check.due("the greatest long as least", planOf(4, Long.MAX_VALUE, Long.MAX_VALUE), 2);
        Check.due("bounds that as ints would hold it", planOf(0, 2 + (1L << 32), 9 + (1L << 32)), 2);
        Check.due("a most that as an int would not", planOf(0, 2, 1L << 32), 4);
        Check.due("the least int", planOf(3, MIN, MIN), 4);
        Check.due("one above the least int", planOf(3, MIN + 1L, Long.MAX_VALUE), 2);
        Check.due("the greatest int", planOf(4, MAX, MAX), 4);
        Check.due("one below the greatest int", planOf(4, Long.MIN_VALUE, MAX - 1L), 2);
    }

    private static int planOf(int figure, long least, long most) {
        SortDesk desk = Check.desk(MIN, MAX);
        desk.rule(figure, least, most, 4);
        return desk.plan();
    }

    private static void planFirst() {
        Check.sentence("The PLAN is the way of the first rule");
        SortDesk desk = Check.desk(2, 1);
        desk.rule(0, 2, 2, 3);
        desk.rule(0, 2, 2, 4);
        Check.due("of two", desk.plan(), 3);
        SortDesk last = Check.desk(2, 1);
        for (int i = 0; i < 11; i++) {
            last.rule(0, 3, 3, 4);
        }
        last.rule(0, 2, 2, 1);
        Check.due("the last of 12", last.plan(), 1);
    }

    private static void planFit() {
        Check.sentence("and whose way is FIT");
        Check.due("turning two that fall", planBy(0, Check.desk(2, 1)), 0);
        Check.due("turning two with the same key", planBy(0, Check.desk(1, 1)), 4);
        Check.due("turning one", planBy(0, Check.desk(1)), 0);
        Check.due("turning none", planBy(0, Check.desk()), 0);
        Check.due("putting in 60", planBy(1, Check.rising(60)), 1);
        Check.due("putting in 61", planBy(1, Check.rising(61)), 4);
        Check.due("counting 500 apart", planBy(3, Check.desk(0, 500)), 3);
        Check.due("counting 501 apart", planBy(3, Check.desk(0, 501)), 4);
        Check.due("counting extreme keys", planBy(3, Check.desk(MIN, MAX)), 4);
        Check.due("joining 150", planBy(2, Check.full()), 2);
    }

    /** The plan where this way's rule is the first one, and that of by bytes the second. */
    private static int planBy(int way, SortDesk desk) {
        desk.rule(0, 0, 150, way);
        desk.rule(0, 0, 150, 4);
        return desk.plan();
    }

    private static void planNone() {
        Check.sentence("if there is none, 2");
        Check.due("no rules, no items", new SortDesk().plan(), 2);
        Check.due("no rules", Check.desk(3, 2).plan(), 2);
        SortDesk desk = Check.desk(0, 501);
        desk.rule(0, 3, 9, 4);
        Check.due("none whose figure is between", desk.plan(), 2);
        desk.rule(0, 2, 2, 0);
        desk.rule(0, 2, 2, 3);
        Check.due("none whose way is fit", desk.plan(), 2);
        desk.rule(0, 2, 2, 1);
        desk.forget(3);
        Check.due("none once it is forgotten", desk.plan(), 2);
    }

    private static void noSuchPlace() {
        Check.sentence("IndexOutOfBounds: there is no such place");
        for (int size : new int[] {0, 1, 4, 150}) {
            Check.Maker maker = () -> Check.rising(size);
            for (int place : new int[] {MIN, -1, size, size + 1, MAX}) {
                String where = "(" + place + ") of " + size;
                Check.refused("remove" + where, maker, NO_PLACE, desk -> desk.remove(place));
                Check.refused("at" + where + ", key", maker, NO_PLACE, desk -> desk.at(place, false));
                Check.refused("at" + where + ", tag", maker, NO_PLACE, desk -> desk.at(place, true));
                Check.refused("origin" + where, maker, NO_PLACE, desk -> desk.origin(place));
                if (place != size) {
                    Check.refused("insert" + where, maker, NO_PLACE, desk -> desk.insert(place, 1, 1));
                }
            }
        }
    }

    private static void noSuchRule() {
        Check.sentence("IndexOutOfBounds: there is no such .. rule");
        for (int count : new int[] {0, 1, 4, 12}) {
            for (int rule : new int[] {MIN, -1, count, count + 1, MAX}) {
                Check.refused("forget(" + rule + ") of " + count, () -> withRules(count), NO_PLACE,
                    desk -> desk.forget(rule));
            }
        }
    }

    private static SortDesk withRules(int count) {
        SortDesk desk = Check.desk(1);
        for (int i = 0; i < count; i++) {
            desk.rule(i % 8, 0, 9, i % 5);
        }
        return desk;
    }

    private static void noSuchStep() {
        Check.sentence("IndexOutOfBounds: there is no such .. step");
        Check.refused("step(0, 0) of none", SortDesk::new, NO_PLACE, desk -> desk.step(0, 0));
        for (int i : new int[] {MIN, -1, 3, 4, MAX}) {
            Check.refused("step(" + i + ", 0) of 3", TermsBoundaryTest::threeSteps, NO_PLACE, desk -> desk.step(i, 0));
        }
        Check.due("the last step", threeSteps().step(2, 0), 1);
        // Three times this number is 2 as an int.
        int wrapped = (int) ((1L << 32) / 3) + 1;
        Check.refused("a step whose number wraps round", TermsBoundaryTest::threeSteps, NO_PLACE,
            desk -> desk.step(wrapped, 0));
        Check.refused("the same, below 0", TermsBoundaryTest::threeSteps, NO_PLACE, desk -> desk.step(-wrapped, 2));
    }

    private static SortDesk threeSteps() {
        SortDesk desk = Check.desk(4, 3, 2, 1);
        desk.order(1);
        return desk;
    }

    private static void severalExceptions() {
        Check.sentence("of several that a call names, the first one");
        Check.refused("insert(-1) of 150", Check::full, NO_PLACE, desk -> desk.insert(-1, 1, 1));
        Check.refused("insert(151) of 150", Check::full, NO_PLACE, desk -> desk.insert(151, 1, 1));
        Check.refused("figure -1, 12 rules", () -> withRules(12), WRONG, desk -> desk.rule(-1, 0, 9, 4));
        Check.refused("figure 8, 12 rules", () -> withRules(12), WRONG, desk -> desk.rule(8, 0, 9, 4));
        Check.refused("way -1, 12 rules", () -> withRules(12), WRONG, desk -> desk.rule(0, 0, 9, -1));
        Check.refused("way 5, 12 rules", () -> withRules(12), WRONG, desk -> desk.rule(0, 0, 9, 5));
    }

    private static void nothingChanged() {
        Check.sentence("A call that throws changes nothing.");
        nothingChangedIn(TermsBoundaryTest::inUse);
        nothingChangedIn(TermsBoundaryTest::withOneMore);
        Check.refused("putBack", TermsBoundaryTest::withOneMore, NOT_NOW, desk -> desk.putBack());
    }

    private static void nothingChangedIn(Check.Maker maker) {
        Check.refused("insert", maker, NO_PLACE, desk -> desk.insert(6, 1, 1));
        Check.refused("remove", maker, NO_PLACE, desk -> desk.remove(5));
        Check.refused("at", maker, NO_PLACE, desk -> desk.at(5, false));
        Check.refused("figure", maker, WRONG, desk -> desk.figure(8));
        Check.refused("rule", maker, WRONG, desk -> desk.rule(0, 0, 9, 5));
        Check.refused("forget", maker, NO_PLACE, desk -> desk.forget(3));
        Check.refused("isFit", maker, WRONG, desk -> desk.isFit(5) ? 1 : 0);
        Check.refused("order by no way", maker, WRONG, desk -> desk.order(5));
        Check.refused("order by one that is not fit", maker, NOT_NOW, desk -> desk.order(0));
        Check.refused("step", maker, NO_PLACE, desk -> desk.step(3, 3));
        Check.refused("origin", maker, NO_PLACE, desk -> desk.origin(5));
        Check.refused("times", maker, WRONG, desk -> desk.times(5));
    }

    /** Items, rules, a trail, and an ordering that can be put back. */
    private static SortDesk inUse() {
        SortDesk desk = Check.desk(3, 1, 700, 1);
        desk.rule(0, 4, 4, 4);
        desk.rule(5, 0, 0, 1);
        desk.rule(6, 0, 0, 4);
        desk.order(1);
        return desk;
    }

    /** The same, but the ordering can no longer be put back. */
    private static SortDesk withOneMore() {
        SortDesk desk = inUse();
        desk.put(-5, -5);
        return desk;
    }

    private static void nothingChangedInAFullDesk() {
        Check.sentence("A call that throws changes nothing.");
        Check.Maker maker = TermsBoundaryTest::fullDesk;
        Check.refused("put", maker, FULL, desk -> desk.put(-1, -1));
        Check.refused("insert in front", maker, FULL, desk -> desk.insert(0, -1, -1));
        Check.refused("insert behind", maker, FULL, desk -> desk.insert(150, -1, -1));
        Check.refused("rule", maker, FULL, desk -> desk.rule(0, 0, 150, 4));
        Check.refused("order by one that is not fit", maker, NOT_NOW, desk -> desk.order(1));
    }

    /** 150 items, 12 rules, and an ordering of one step that can be put back. */
    private static SortDesk fullDesk() {
        SortDesk desk = Check.rising(149);
        desk.put(70, -70);
        for (int i = 0; i < 12; i++) {
            desk.rule(i % 8, i, 150, i % 5);
        }
        desk.order(2);
        return desk;
    }
}
