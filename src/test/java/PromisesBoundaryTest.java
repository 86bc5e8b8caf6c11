/** The boundary cases of promises 1 to 19, beside those of the terms that they lean on. */
public final class PromisesBoundaryTest {
    private static final int MIN = Integer.MIN_VALUE;
    private static final int MAX = Integer.MAX_VALUE;
    private static final String NO_PLACE = "IndexOutOfBoundsException";
    private static final String WRONG = "IllegalArgumentException";
    private static final String NOT_NOW = "IllegalStateException";
    private static final String FULL = "UnsupportedOperationException";

    public static void main(String[] args) {
        Check.all(
            PromisesBoundaryTest::newObject,
            PromisesBoundaryTest::putPlace,
            PromisesBoundaryTest::putFull,
            PromisesBoundaryTest::insertPlaces,
            PromisesBoundaryTest::insertFull,
            PromisesBoundaryTest::remove,
            PromisesBoundaryTest::at,
            PromisesBoundaryTest::noSuchFigure,
            PromisesBoundaryTest::ruleNumber,
            PromisesBoundaryTest::ruleOfNothing,
            PromisesBoundaryTest::ruleFull,
            PromisesBoundaryTest::forget,
            PromisesBoundaryTest::plan,
            PromisesBoundaryTest::isFit,
            PromisesBoundaryTest::orderByPlan,
            PromisesBoundaryTest::orderByNoWay,
            PromisesBoundaryTest::orderNotFit,
            PromisesBoundaryTest::putBack,
            PromisesBoundaryTest::putBackWithoutOrdering,
            PromisesBoundaryTest::putBackAfterItems,
            PromisesBoundaryTest::putBackTwice,
            PromisesBoundaryTest::steps,
            PromisesBoundaryTest::stepNumbers,
            PromisesBoundaryTest::origin,
            PromisesBoundaryTest::originChangesNothing,
            PromisesBoundaryTest::below,
            PromisesBoundaryTest::belowInAFallingRow,
            PromisesBoundaryTest::compared,
            PromisesBoundaryTest::times,
            PromisesBoundaryTest::timesOfNoWay,
            PromisesBoundaryTest::astray);
    }

    private static void newObject() {
        Check.sentence("No items, no rules, an empty trail.");
        Check.due("items", new SortDesk().figure(0), 0);
        Check.due("steps", new SortDesk().steps(), 0);
        Check.due("plan", new SortDesk().plan(), 2);
        Check.due("the first item's place", new SortDesk().put(1, 1), 0);
        Check.due("the first rule's number", new SortDesk().rule(0, 0, 0, 0), 0);
        Check.refused("at(0)", SortDesk::new, NO_PLACE, desk -> desk.at(0, false));
        Check.refused("forget(0)", SortDesk::new, NO_PLACE, desk -> desk.forget(0));
        Check.refused("step(0, 0)", SortDesk::new, NO_PLACE, desk -> desk.step(0, 0));
        SortDesk used = Check.desk(2, 1);
        used.rule(0, 0, 9, 4);
        used.order(2);
        SortDesk another = new SortDesk();
        Check.due("items beside a used one", another.figure(0), 0);
        Check.due("plan beside a used one", another.plan(), 2);
        Check.due("steps beside a used one", another.steps(), 0);
    }

    private static void putPlace() {
        Check.sentence("An item comes behind all others: its place.");
        SortDesk desk = new SortDesk();
        Check.due("the first", desk.put(MAX, MIN), 0);
        Check.due("the second", desk.put(MIN, MAX), 1);
        Check.due("the key of the first", desk.at(0, false), MAX);
        Check.due("the tag of the second", desk.at(1, true), MAX);
        desk.remove(0);
        desk.remove(0);
        Check.due("the first again", desk.put(1, 1), 0);
        Check.due("the 150th", Check.rising(149).put(1, 1), 149);
    }

    private static void putFull() {
        Check.sentence("put: UnsupportedOperation: there are 150.");
        Check.due("149 there", Check.outcome(() -> Check.rising(149).put(1, 1)), "149");
        Check.refused("150 there", Check::full, FULL, desk -> desk.put(1, 1));
        SortDesk desk = Check.full();
        desk.remove(149);
        Check.due("one has gone", desk.put(MAX, 1), 149);
        Check.due("the key that came", desk.at(149, false), MAX);
        Check.due("150 again", Check.outcome(() -> desk.put(1, 1)), "throws." + FULL);
    }

    private static void insertPlaces() {
        Check.sentence("An item comes to a place (0 to how many there are), those from there on go on by one");
        SortDesk desk = new SortDesk();
        Check.due("at 0 of none", desk.insert(0, 5, 50), 1);
        Check.due("at 0 of one", desk.insert(0, 3, 30), 2);
        Check.due("at 2 of two", desk.insert(2, 9, 90), 3);
        Check.due("keys", Check.keys(desk), "[3, 5, 9]");
        Check.due("tags", Check.tags(desk), "[30, 50, 90]");
        Check.refused("at -1 of none", SortDesk::new, NO_PLACE, none -> none.insert(-1, 1, 1));
        Check.refused("at 1 of none", SortDesk::new, NO_PLACE, none -> none.insert(1, 1, 1));
        Check.refused("at -1 of two", () -> Check.desk(1, 2), NO_PLACE, two -> two.insert(-1, 1, 1));
        Check.refused("at 3 of two", () -> Check.desk(1, 2), NO_PLACE, two -> two.insert(3, 1, 1));
        SortDesk front = Check.rising(149);
        Check.due("the 150th in front", front.insert(0, -1, -1), 150);
        Check.due("the first then", front.at(0, false), -1);
        Check.due("the last then", front.at(149, false), 148);
        SortDesk behind = Check.rising(149);
        Check.due("the 150th behind", behind.insert(149, -1, -1), 150);
        Check.due("the last but one then", behind.at(148, false), 148);
        Check.due("the 150th then", behind.at(149, false), -1);
    }

    private static void insertFull() {
        Check.sentence("insert: UnsupportedOperation: there are 150.");
        Check.refused("at 0", Check::full, FULL, desk -> desk.insert(0, 1, 1));
        Check.refused("at 149", Check::full, FULL, desk -> desk.insert(149, 1, 1));
        Check.refused("at 150", Check::full, FULL, desk -> desk.insert(150, 1, 1));
        SortDesk desk = Check.full();
        desk.remove(0);
        Check.due("one has gone", desk.insert(0, 1, 1), 150);
        Check.due("150 again", Check.outcome(() -> desk.insert(0, 1, 1)), "throws." + FULL);
    }

    private static void remove() {
        Check.sentence("The item at a place goes: its key.");
        SortDesk desk = Check.desk(MIN, 5, 6, MAX);
        Check.due("the first", desk.remove(0), MIN);
        Check.due("the last", desk.remove(2), MAX);
        Check.due("those that are left", Check.keys(desk), "[5, 6]");
        Check.due("their tags", Check.tags(desk), "[101, 102]");
        desk.remove(1);
        Check.due("the only one", desk.remove(0), 5);
        Check.due("none is left", desk.figure(0), 0);
        Check.due("from none", Check.outcome(() -> desk.remove(0)), "throws." + NO_PLACE);
        SortDesk full = Check.full();
        Check.due("the last of 150", full.remove(149), 149);
        Check.due("the first of 149", full.remove(0), 0);
        Check.due("the last then", full.at(147, false), 148);
        Check.due("none at 148 then", Check.outcome(() -> full.at(148, false)), "throws." + NO_PLACE);
    }

    private static void at() {
        Check.sentence("The key (or, on tag, the tag) of the item at a place.");
        SortDesk desk = Check.desk(MIN, MAX);
        Check.due("the first key", desk.at(0, false), MIN);
        Check.due("the first tag", desk.at(0, true), 100);
        Check.due("the last key", desk.at(1, false), MAX);
        Check.due("the last tag", desk.at(1, true), 101);
        Check.refused("-1", () -> Check.desk(1, 2), NO_PLACE, two -> two.at(-1, false));
        Check.refused("behind the last", () -> Check.desk(1, 2), NO_PLACE, two -> two.at(2, true));
    }

    private static void noSuchFigure() {
        Check.sentence("IllegalArgument: there is no such figure.");
        Check.due("the first", Check.desk(2, 1).figure(0), 2);
        Check.due("the last", Check.desk(2, 1).figure(7), 2);
        for (int what : new int[] {MIN, -1, 8, MAX}) {
            Check.refused("figure " + what, () -> Check.desk(2, 1), WRONG, desk -> desk.figure(what));
            Check.refused("figure " + what + " of none", SortDesk::new, WRONG, desk -> desk.figure(what));
        }
    }

    private static void ruleNumber() {
        Check.sentence("A rule comes behind all others: its number.");
        SortDesk desk = new SortDesk();
        for (int i = 0; i < 12; i++) {
            Check.due("rule " + i, desk.rule(7 - i % 8, MIN, MAX, 4 - i % 5), i);
        }
        Check.due("the first is the plan's", desk.plan(), 4);
        desk.forget(3);
        Check.due("the 12th again", desk.rule(0, 0, 0, 0), 11);
    }

    private static void ruleOfNothing() {
        Check.sentence("IllegalArgument: there is no such figure or way.");
        for (int figure : new int[] {MIN, -1, 8, MAX}) {
            Check.refused("figure " + figure, SortDesk::new, WRONG, desk -> desk.rule(figure, 0, 9, 2));
        }
        for (int way : new int[] {MIN, SortDesk.NONE, 5, MAX}) {
            Check.refused("way " + way, SortDesk::new, WRONG, desk -> desk.rule(0, 0, 9, way));
        }
        Check.refused("neither", SortDesk::new, WRONG, desk -> desk.rule(8, 0, 9, 5));
        Check.due("the last figure and way", new SortDesk().rule(7, 0, 9, 4), 0);
        Check.due("the first figure and way", new SortDesk().rule(0, 0, 9, 0), 0);
        Check.due("least above most", new SortDesk().rule(0, Long.MAX_VALUE, Long.MIN_VALUE, 0), 0);
    }

    private static void ruleFull() {
        Check.sentence("UnsupportedOperation: there are 12.");
        Check.due("11 there", withRules(11).rule(0, 0, 9, 4), 11);
        Check.refused("12 there", () -> withRules(12), FULL, desk -> desk.rule(0, 0, 9, 4));
        SortDesk desk = withRules(12);
        desk.forget(0);
        Check.due("one is forgotten", desk.rule(0, 0, 9, 4), 11);
        Check.due("12 again", Check.outcome(() -> desk.rule(0, 0, 9, 4)), "throws." + FULL);
    }

    /** Rule i is for i items alone: an even one tells them by their number, an odd one by the greatest key. */
    private static SortDesk withRules(int count) {
        SortDesk desk = new SortDesk();
        for (int i = 0; i < count; i++) {
            if (i % 2 == 0) {
                desk.rule(0, i, i, 4);
            } else {
                desk.rule(4, 1000 + i, 1000 + i, 1);
            }
        }
        return desk;
    }

    private static void forget() {
        Check.sentence("A rule goes (those behind it have numbers one less): how many are left.");
        for (int gone : new int[] {0, 5, 11}) {
            SortDesk desk = withRules(12);
            Check.due("rule " + gone + " of 12", desk.forget(gone), 11);
            Check.due("a 12th", Check.outcome(() -> desk.forget(11)), "throws." + NO_PLACE);
            for (int i = 0; i < 12; i++) {
                int want = i == gone ? 2 : i % 2 == 0 ? 4 : 1;
                Check.due("plan for " + i + " items without rule " + gone, desk.plan(), want);
                desk.put(1001 + i, i);
            }
        }
        SortDesk one = withRules(1);
        Check.due("the only one", one.forget(0), 0);
        Check.due("plan then", one.plan(), 2);
        Check.due("of none", Check.outcome(() -> one.forget(0)), "throws." + NO_PLACE);
    }

    private static void plan() {
        Check.sentence("The plan.");
        Check.due("no items, no rules", new SortDesk().plan(), 2);
        Check.due("no items", withRules(12).plan(), 4);
        SortDesk full = Check.full();
        full.rule(0, 150, 150, 0);
        full.rule(0, 150, 150, 1);
        full.rule(0, 150, 150, 3);
        Check.due("150 items", full.plan(), 3);
        Check.due("it compares nothing", full.compared(), 0);
    }

    private static void isFit() {
        Check.sentence("isFit: IllegalArgument: there is no such way.");
        for (int way : new int[] {MIN, -2, SortDesk.NONE, 5, MAX}) {
            Check.refused("way " + way, () -> Check.desk(1), WRONG, desk -> desk.isFit(way) ? 1 : 0);
            Check.refused("way " + way + " of none", SortDesk::new, WRONG, desk -> desk.isFit(way) ? 1 : 0);
        }
        Check.due("the first way", new SortDesk().isFit(0), true);
        Check.due("the last way", new SortDesk().isFit(4), true);
    }

    private static void orderByPlan() {
        Check.sentence("The items are ordered by a way, or (NONE) by the plan: how often it compared.");
        Check.due("no items, no rules", new SortDesk().order(SortDesk.NONE), 0);
        SortDesk joined = Check.desk(2, 1, 2);
        Check.due("no rules", joined.order(SortDesk.NONE), 2);
        Check.due("no rules: joining", joined.times(2), 1);
        SortDesk full = Check.falling(150);
        full.rule(0, 150, 150, 1);
        full.rule(0, 150, 150, 0);
        Check.due("150, a rule that is not fit before one that is", full.order(SortDesk.NONE), 149);
        Check.due("turning", full.times(0), 1);
        Check.due("once it is turned, by the plan", full.order(SortDesk.NONE), 0);
        Check.due("joining, none being fit", full.times(2), 1);
    }

    private static void orderByNoWay() {
        Check.sentence("order: IllegalArgument: there is no such way.");
        for (int way : new int[] {MIN, -2, 5, MAX}) {
            Check.refused("way " + way, () -> Check.desk(2, 1), WRONG, desk -> desk.order(way));
            Check.refused("way " + way + " of none", SortDesk::new, WRONG, desk -> desk.order(way));
        }
        Check.due("the first way", Check.desk(2, 1).order(0), 1);
        Check.due("the last way", Check.desk(2, 1).order(4), 0);
    }

    private static void orderNotFit() {
        Check.sentence("IllegalState: it is not fit.");
        Check.refused("turning the same key", () -> Check.desk(1, 1), NOT_NOW, desk -> desk.order(0));
        Check.refused("turning a row that rises", Check::full, NOT_NOW, desk -> desk.order(0));
        Check.refused("putting in 61", () -> Check.falling(61), NOT_NOW, desk -> desk.order(1));
        Check.refused("counting 501 apart", () -> Check.desk(501, 0), NOT_NOW, desk -> desk.order(3));
        Check.refused("counting extreme keys", () -> Check.desk(MAX, MIN), NOT_NOW, desk -> desk.order(3));
        Check.refused("turning what is turned", PromisesBoundaryTest::turned, NOT_NOW, desk -> desk.order(0));
    }

    private static SortDesk turned() {
        SortDesk desk = Check.desk(3, 2, 1);
        desk.order(0);
        return desk;
    }

    private static void putBack() {
        Check.sentence("The items stand as they did before the latest ordering, and the trail is empty: how many");
        SortDesk none = new SortDesk();
        none.order(2);
        Check.due("none", none.putBack(), 0);
        SortDesk one = Check.desk(MIN);
        one.order(0);
        Check.due("one", one.putBack(), 1);
        SortDesk full = Check.falling(150);
        full.order(2);
        Check.due("150", full.putBack(), 150);
        Check.due("150: the first", full.at(0, true), 0);
        Check.due("150: the last", full.at(149, true), 149);
        Check.due("150: steps", full.steps(), 0);
        SortDesk twice = Check.desk(2, 1);
        twice.order(2);
        twice.order(4);
        Check.due("after two orderings", twice.putBack(), 2);
        Check.due("as before the latest", Check.tags(twice), "[101, 100]");
    }

    private static void putBackWithoutOrdering() {
        Check.sentence("IllegalState: there was none");
        Check.refused("no items", SortDesk::new, NOT_NOW, desk -> desk.putBack());
        Check.refused("two items", () -> Check.desk(2, 1), NOT_NOW, desk -> desk.putBack());
        SortDesk refused = Check.desk(1, 2);
        Check.outcome(() -> refused.order(0));
        Check.outcome(() -> refused.order(5));
        Check.due("refused orderings are none", Check.outcome(() -> refused.putBack()), "throws." + NOT_NOW);
    }

    private static void putBackAfterItems() {
        Check.sentence("or items came or went since");
        Check.due("one was put", backAfter(desk -> desk.put(9, 9)), "throws." + NOT_NOW);
        Check.due("one was inserted in front", backAfter(desk -> desk.insert(0, 9, 9)), "throws." + NOT_NOW);
        Check.due("one was inserted behind", backAfter(desk -> desk.insert(3, 9, 9)), "throws." + NOT_NOW);
        Check.due("one was removed", backAfter(desk -> desk.remove(2)), "throws." + NOT_NOW);
        Check.due("one came and went", backAfter(desk -> desk.put(9, 9) + desk.remove(3)), "throws." + NOT_NOW);
        Check.due("one went and came", backAfter(desk -> desk.put(desk.remove(2), 100)), "throws." + NOT_NOW);
        Check.due("ordered again then", backAfter(desk -> desk.put(9, 9) + desk.order(4)), "4");
        Check.due("rules came and went", backAfter(desk -> desk.rule(0, 0, 9, 4) + desk.forget(0)), "3");
        Check.due("none could be inserted", backAfter(desk -> refusedBy(() -> desk.insert(4, 9, 9))), "3");
        Check.due("none could be removed", backAfter(desk -> refusedBy(() -> desk.remove(3))), "3");
        SortDesk full = Check.falling(150);
        full.order(0);
        refusedBy(() -> full.put(9, 9));
        Check.due("none could be put", Check.outcome(() -> full.putBack()), "150");
    }

    private static String backAfter(Check.CallOn calls) {
        SortDesk desk = Check.desk(3, 2, 1);
        desk.order(1);
        calls.answer(desk);
        return Check.outcome(() -> desk.putBack());
    }

    private static long refusedBy(Check.Call call) {
        Check.due("it is refused", Check.outcome(call).startsWith("throws"), true);
        return 0;
    }

    private static void putBackTwice() {
        Check.sentence("or they were put back");
        Check.due("a second time", backAfter(desk -> desk.putBack()), "throws." + NOT_NOW);
        Check.due("after two orderings", backAfter(desk -> desk.order(2) + desk.putBack()), "throws." + NOT_NOW);
        Check.due("ordered again", backAfter(desk -> desk.putBack() + desk.order(0)), "3");
        Check.refused("it changes nothing", PromisesBoundaryTest::putBackOnce, NOT_NOW, desk -> desk.putBack());
    }

    private static SortDesk putBackOnce() {
        SortDesk desk = turned();
        desk.putBack();
        return desk;
    }

    private static void steps() {
        Check.sentence("How many steps the trail has.");
        Check.due("none at first", new SortDesk().steps(), 0);
        Check.due("one", turned().steps(), 1);
        Check.due("none once put back", putBackOnce().steps(), 0);
        SortDesk full = Check.falling(150);
        full.order(2);
        Check.due("the most", full.steps(), 149);
        full.order(2);
        Check.due("none in order", full.steps(), 0);
    }

    private static void stepNumbers() {
        Check.sentence("Number 0, 1 or 2 of step i. IndexOutOfBounds: also for what.");
        Check.due("number 0", turned().step(0, 0), 0);
        Check.due("number 2", turned().step(0, 2), 3);
        for (int what : new int[] {MIN, -1, 3, MAX}) {
            Check.refused("number " + what, PromisesBoundaryTest::turned, NO_PLACE, desk -> desk.step(0, what));
        }
        // The numbers of two steps lie side by side in many a trail: 3 of the first, -1 of the second.
        Check.refused("number 3 of step 0 of 2", PromisesBoundaryTest::twoSteps, NO_PLACE, desk -> desk.step(0, 3));
        Check.refused("number -1 of step 1 of 2", PromisesBoundaryTest::twoSteps, NO_PLACE, desk -> desk.step(1, -1));
        Check.refused("number 0 of step 2 of 2", PromisesBoundaryTest::twoSteps, NO_PLACE, desk -> desk.step(2, 0));
        Check.refused("number 3 of step -1", PromisesBoundaryTest::twoSteps, NO_PLACE, desk -> desk.step(-1, 3));
        Check.refused("number 0 once put back", PromisesBoundaryTest::putBackOnce, NO_PLACE, desk -> desk.step(0, 0));
        SortDesk full = Check.falling(150);
        full.order(2);
        Check.due("number 2 of the last of 149", full.step(148, 2), 150);
        Check.due("number 0 of none", Check.outcome(() -> full.step(149, 0)), "throws." + NO_PLACE);
    }

    private static SortDesk twoSteps() {
        SortDesk desk = Check.desk(3, 2, 1);
        desk.order(1);
        return desk;
    }

    private static void origin() {
        Check.sentence("The place of the item that would come to a place, were the items ordered");
        Check.due("one item", Check.desk(5).origin(0), 0);
        Check.due("extreme keys, the least", Check.desk(MAX, 0, MIN).origin(0), 2);
        Check.due("extreme keys, the greatest", Check.desk(MAX, 0, MIN).origin(2), 0);
        Check.due("one key, the first", Check.same(150, 4).origin(0), 0);
        Check.due("one key, the last", Check.same(150, 4).origin(149), 149);
        Check.due("150 that fall, the first", Check.falling(150).origin(0), 149);
        Check.due("150 that fall, the last", Check.falling(150).origin(149), 0);
        Check.due("once they are ordered", turned().origin(0), 0);
        Check.refused("of none", SortDesk::new, NO_PLACE, desk -> desk.origin(0));
        Check.refused("behind the last", () -> Check.desk(2, 1), NO_PLACE, desk -> desk.origin(2));
        Check.refused("-1", () -> Check.desk(2, 1), NO_PLACE, desk -> desk.origin(-1));
    }

    private static void originChangesNothing() {
        Check.sentence("nothing is changed or compared");
        SortDesk desk = Check.desk(3, 1, 2, 1);
        desk.order(1);
        long compared = desk.compared();
        desk.putBack();
        desk.order(4);
        String trail = Check.trail(desk);
        desk.origin(0);
        desk.origin(3);
        Check.due("compared", desk.compared(), compared);
        Check.due("the trail", Check.trail(desk), trail);
        Check.due("times", desk.times(2), 0);
        Check.due("it can still be put back", desk.putBack(), 4);
        Check.due("the place of the first then", desk.origin(0), 1);
        Check.due("keys", Check.keys(desk), "[3, 1, 2, 1]");
        Check.due("tags", Check.tags(desk), "[100, 101, 102, 103]");
        Check.due("steps", desk.steps(), 0);
    }

    private static void below() {
        Check.sentence("How many items are below a key, in a row that does not fall");
        Check.due("no items", new SortDesk().below(MAX), 0);
        Check.due("one item, its key", Check.desk(MIN).below(MIN), 0);
        Check.due("one item, one more", Check.desk(MIN).below(MIN + 1), 1);
        Check.due("the least int", Check.desk(MIN, MIN, 0, MAX).below(MIN), 0);
        Check.due("the greatest int", Check.desk(MIN, MIN, 0, MAX).below(MAX), 3);
        Check.due("the least key", Check.desk(1, 2, 2, 3).below(1), 0);
        Check.due("a key that two have", Check.desk(1, 2, 2, 3).below(2), 1);
        Check.due("one above the greatest", Check.desk(1, 2, 2, 3).below(4), 4);
        Check.due("150 items, all", Check.full().below(150), 150);
        Check.due("150 items, all but the last", Check.full().below(149), 149);
        Check.due("150 items of one key, it", Check.same(150, 7).below(7), 0);
        Check.due("150 items of one key, one more", Check.same(150, 7).below(8), 150);
    }

    private static void belowInAFallingRow() {
        Check.sentence("NONE in another one.");
        Check.due("two that fall", Check.desk(1, 0).below(MIN), SortDesk.NONE);
        Check.due("from the greatest int to the least", Check.desk(MAX, MIN).below(0), SortDesk.NONE);
        Check.due("at the first step alone", Check.desk(2, 1, 2, 3).below(9), SortDesk.NONE);
        Check.due("at the last step alone", Check.desk(1, 2, 3, 2).below(9), SortDesk.NONE);
        SortDesk last = Check.rising(149);
        last.put(147, 149);
        Check.due("at the last of 150", last.below(0), SortDesk.NONE);
        last.order(2);
        Check.due("once it is ordered", last.below(148), 149);
        last.putBack();
        Check.due("once it is put back", last.below(148), SortDesk.NONE);
    }

    private static void compared() {
        Check.sentence("How often was compared in all.");
        SortDesk desk = Check.desk(3, 2, 1);
        Check.due("at first", desk.compared(), 0);
        Check.outcome(() -> desk.order(5));
        Check.due("after no ordering", desk.compared(), 0);
        desk.order(0);
        desk.putBack();
        Check.due("once put back", desk.compared(), 2);
        desk.order(1);
        Check.outcome(() -> desk.order(0));
        Check.due("after a second one, and a refused one", desk.compared(), 2 + 3);
        desk.order(3);
        desk.order(4);
        desk.order(2);
        Check.due("after three that compare nothing", desk.compared(), 2 + 3);
        SortDesk most = Check.falling(150);
        long sum = 0;
        for (int i = 0; i < 150; i++) {
            sum += most.order(2);
            most.putBack();
        }
        Check.due("after many", most.compared(), sum);
        Check.due("after many, by number", sum, 150 * 515);
    }

    private static void times() {
        Check.sentence("How many orderings there were by a way.");
        SortDesk desk = Check.desk(1, 2);
        for (int way = 0; way < 5; way++) {
            Check.due("none at first by way " + way, desk.times(way), 0);
        }
        Check.outcome(() -> desk.order(0));
        Check.due("a refused one is none", desk.times(0), 0);
        for (int i = 0; i < 250; i++) {
            desk.order(4);
        }
        desk.order(SortDesk.NONE);
        desk.putBack();
        int[] want = {0, 0, 1, 0, 250};
        for (int way = 0; way < 5; way++) {
            Check.due("by way " + way, desk.times(way), want[way]);
        }
        SortDesk none = new SortDesk();
        none.order(0);
        Check.due("one of no items", none.times(0), 1);
    }

    private static void timesOfNoWay() {
        Check.sentence("times: IllegalArgument: there is no such way.");
        for (int way : new int[] {MIN, SortDesk.NONE, 5, MAX}) {
            Check.refused("way " + way, PromisesBoundaryTest::turned, WRONG, desk -> desk.times(way));
        }
        Check.due("the first way", turned().times(0), 1);
        Check.due("the last way", turned().times(4), 0);
    }

    private static void astray() {
        Check.sentence("0, or 1, if the latest ordering has not ordered its items, or has not kept those of one key");
        Check.due("none yet, in a row that falls", Check.desk(2, 1).astray(), 0);
        for (int way = 0; way < 5; way++) {
            Check.due("no items, way " + way, astrayAfter(new SortDesk(), way), 0);
            Check.due("one item, way " + way, astrayAfter(Check.desk(MIN), way), 0);
        }
        for (int way = 1; way < 5; way++) {
            Check.due("the same keys, way " + way, astrayAfter(Check.desk(2, 1, 2, 1), way), 0);
        }
        for (int way : new int[] {0, 2, 3, 4}) {
            Check.due("150 items, way " + way, astrayAfter(Check.falling(150), way), 0);
        }
        for (int way : new int[] {0, 1, 2, 4}) {
            Check.due("extreme keys, way " + way, astrayAfter(Check.desk(MAX, MIN), way), 0);
        }
        SortDesk desk = Check.desk(1, 2);
        desk.order(2);
        desk.put(0, 0);
        Check.due("a lesser one put behind them", desk.astray(), 0);
        SortDesk back = Check.desk(2, 1);
        back.order(2);
        back.putBack();
        Check.due("put back", back.astray(), 0);
    }

    private static int astrayAfter(SortDesk desk, int way) {
        desk.order(way);
        return desk.astray();
    }
}
