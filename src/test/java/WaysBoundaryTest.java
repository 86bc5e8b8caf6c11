import java.util.Arrays;

/** The boundary cases of the five ways and of the trail, as 'Terms' tells them. */
public final class WaysBoundaryTest {
    private static final int MIN = Integer.MIN_VALUE;
    private static final int MAX = Integer.MAX_VALUE;
    private static final String NOT_NOW = "IllegalStateException";

    public static void main(String[] args) {
        Check.all(
            WaysBoundaryTest::orderOfKeys,
            WaysBoundaryTest::sameKeys,
            WaysBoundaryTest::turningFit,
            WaysBoundaryTest::turningCompares,
            WaysBoundaryTest::turningStep,
            WaysBoundaryTest::puttingInFit,
            WaysBoundaryTest::puttingInCompares,
            WaysBoundaryTest::puttingInGoes,
            WaysBoundaryTest::joiningFit,
            WaysBoundaryTest::joiningTwoRunsOrMore,
            WaysBoundaryTest::joiningAnOddOne,
            WaysBoundaryTest::joiningTwo,
            WaysBoundaryTest::joiningSteps,
            WaysBoundaryTest::countingFit,
            WaysBoundaryTest::countingComparesNothing,
            WaysBoundaryTest::countingSteps,
            WaysBoundaryTest::bytesFit,
            WaysBoundaryTest::bytesCompareNothing,
            WaysBoundaryTest::bytesWithSign,
            WaysBoundaryTest::bytesSteps,
            WaysBoundaryTest::trail);
    }

    private static void ordered(String name, SortDesk desk, int way, int compared, String trail) {
        Check.due(name + ": order", desk.order(way), compared);
        Check.due(name + ": trail", Check.trail(desk), trail);
        Check.due(name + ": inversions left", desk.figure(6), 0);
    }

    private static void fit(String name, SortDesk desk, int way, boolean want) {
        Check.due(name + ": isFit", desk.isFit(way), want);
        Check.due(name + ": order", Check.outcome(() -> desk.order(way)).startsWith("throws"), !want);
    }

    private static void orderOfKeys() {
        Check.sentence("each brings the items into the order of their keys");
        for (int way = 0; way < 5; way++) {
            SortDesk none = Check.desk();
            none.order(way);
            Check.due("no items by way " + way, Check.keys(none), "[]");
            SortDesk one = Check.desk(MIN);
            one.order(way);
            Check.due("one item by way " + way, Check.keys(one), "[-2147483648]");
        }
        for (int way : new int[] {0, 1, 2, 4}) {
            SortDesk two = Check.desk(MAX, MIN);
            two.order(way);
            Check.due("extreme keys by way " + way, Check.keys(two), "[-2147483648, 2147483647]");
            Check.due("their tags by way " + way, Check.tags(two), "[101, 100]");
        }
        for (int way : new int[] {0, 2, 3, 4}) {
            SortDesk full = Check.falling(150);
            full.order(way);
            Check.due("150 items by way " + way, full.figure(6), 0);
            Check.due("the last of them by way " + way, full.at(149, true), 0);
        }
        SortDesk sixty = Check.falling(60);
        sixty.order(1);
        Check.due("60 items by way 1", sixty.figure(6), 0);
        Check.due("the last of them by way 1", sixty.at(59, true), 0);
    }

    private static void sameKeys() {
        Check.sentence("those with the same key stay in the order that they had");
        for (int way = 1; way < 5; way++) {
            SortDesk two = Check.desk(5, 5);
            two.order(way);
            Check.due("two by way " + way, Check.tags(two), "[100, 101]");
            SortDesk apart = Check.desk(5, 6, 4, 5, 4, 6);
            apart.order(way);
            Check.due("pairs by way " + way, Check.tags(apart), "[102, 104, 100, 103, 101, 105]");
            int size = way == 1 ? 60 : 150;
            SortDesk all = Check.same(size, -1);
            all.order(way);
            int[] want = new int[size];
            Arrays.setAll(want, i -> i);
            Check.due("all by way " + way, Check.tags(all), Arrays.toString(want));
        }
    }

    private static void turningFit() {
        Check.sentence("0 TURNING is fit if the whole row falls at each step (also with no item, or one).");
        fit("no item", Check.desk(), 0, true);
        fit("one item", Check.desk(MAX), 0, true);
        fit("two that fall", Check.desk(1, 0), 0, true);
        fit("two with the same key", Check.desk(1, 1), 0, false);
        fit("two that rise", Check.desk(0, 1), 0, false);
        fit("from the greatest int to the least", Check.desk(MAX, MIN), 0, true);
        fit("from the least int to the greatest", Check.desk(MIN, MAX), 0, false);
        fit("not at the first step", Check.desk(3, 3, 2, 1), 0, false);
        fit("not at the last step", Check.desk(3, 2, 1, 1), 0, false);
        fit("all of 150", Check.falling(150), 0, true);
        SortDesk last = Check.falling(149);
        last.put(-148, 149);
        fit("all of 150 but the last", last, 0, false);
    }

    private static void turningCompares() {
        Check.sentence("It compares each item but the first with the one before.");
        Check.due("no item", Check.desk().order(0), 0);
        Check.due("one item", Check.desk(1).order(0), 0);
        Check.due("two items", Check.desk(2, 1).order(0), 1);
        Check.due("150 items", Check.falling(150).order(0), 149);
    }

    private static void turningStep() {
        Check.sentence("One step, if there are two items or more: 0, 0, how many.");
        ordered("no item", Check.desk(), 0, 0, "");
        ordered("one item", Check.desk(1), 0, 0, "");
        ordered("two items", Check.desk(2, 1), 0, 1, "0,0,2");
        ordered("150 items", Check.falling(150), 0, 149, "0,0,150");
    }

    private static void puttingInFit() {
        Check.sentence("1 PUTTING IN is fit for 60 items at most.");
        fit("no item", Check.desk(), 1, true);
        fit("60 items", Check.falling(60), 1, true);
        fit("61 items", Check.falling(61), 1, false);
        fit("150 items", Check.full(), 1, false);
        SortDesk one = Check.falling(61);
        one.remove(60);
        fit("60 again", one, 1, true);
    }

    private static void puttingInCompares() {
        Check.sentence("with the one before it, then with the one before that, as long as these are greater");
        Check.due("no item", Check.desk().order(1), 0);
        Check.due("one item", Check.desk(1).order(1), 0);
        Check.due("two that rise", Check.desk(1, 2).order(1), 1);
        Check.due("two that fall", Check.desk(2, 1).order(1), 1);
        Check.due("the same key stops it", Check.desk(1, 3, 1).order(1), 1 + 2);
        Check.due("a lesser key stops it", Check.desk(1, 3, 2).order(1), 1 + 2);
        Check.due("nothing before the first", Check.desk(2, 3, 1).order(1), 1 + 2);
        Check.due("extreme keys that fall", Check.desk(MAX, 0, MIN).order(1), 1 + 2);
        Check.due("extreme keys that rise", Check.desk(MIN, 0, MAX).order(1), 1 + 1);
        Check.due("60 that rise", Check.rising(60).order(1), 59);
        Check.due("60 that fall", Check.falling(60).order(1), 60 * 59 / 2);
    }

    private static void puttingInGoes() {
        Check.sentence("If it goes, a step: 1, the place from which it goes, the place where it comes to.");
        ordered("none goes", Check.desk(1, 2, 3), 1, 2, "");
        ordered("none goes of one key", Check.desk(3, 3, 3), 1, 2, "");
        ordered("to the front", Check.desk(2, 3, 1), 1, 3, "1,2,0");
        ordered("by one place", Check.desk(1, 3, 2), 1, 3, "1,2,1");
        ordered("behind the same key", Check.desk(1, 3, 1), 1, 3, "1,2,1");
        ordered("extreme keys", Check.desk(MAX, MIN), 1, 1, "1,1,0");
        SortDesk desk = Check.falling(60);
        desk.order(1);
        Check.due("the most steps", desk.steps(), 59);
        Check.due("the last one from", desk.step(58, 1), 59);
        Check.due("the last one to", desk.step(58, 2), 0);
    }

    private static void joiningFit() {
        Check.sentence("2 JOINING is fit always.");
        fit("no item", Check.desk(), 2, true);
        fit("one item", Check.desk(0), 2, true);
        fit("extreme keys", Check.desk(MIN, MAX, MIN), 2, true);
        fit("150 that rise", Check.full(), 2, true);
        fit("150 that fall", Check.falling(150), 2, true);
    }

    private static void joiningTwoRunsOrMore() {
        Check.sentence("As long as there are two runs or more: the first two of them are joined");
        ordered("no item", Check.desk(), 2, 0, "");
        ordered("one item", Check.desk(1), 2, 0, "");
        ordered("one run", Check.desk(1, 2, 2, 3), 2, 0, "");
        ordered("one run of 150", Check.full(), 2, 0, "");
        ordered("one run of one key", Check.same(150, 9), 2, 0, "");
        ordered("two runs", Check.desk(2, 1), 2, 1, "2,0,2");
        ordered("two runs of extreme keys", Check.desk(MIN, MAX, MIN, MAX), 2, 3, "2,0,4");
    }

    private static void joiningAnOddOne() {
        Check.sentence("an odd one that is left stays; then again, with those that were made so");
        ordered("three runs", Check.desk(3, 2, 1), 2, 1 + 1, "2,0,2 2,0,3");
        ordered("four runs", Check.desk(4, 3, 2, 1), 2, 1 + 1 + 2, "2,0,2 2,2,4 2,0,4");
        ordered("five runs", Check.desk(5, 4, 3, 2, 1), 2, 1 + 1 + 2 + 1, "2,0,2 2,2,4 2,0,4 2,0,5");
        ordered("seven runs", Check.falling(7), 2, 3 + 2 + 1 + 3, "2,0,2 2,2,4 2,4,6 2,0,4 2,4,7 2,0,7");
    }

    private static void joiningTwo() {
        Check.sentence("the first run's goes first unless it is greater, until one of both is used up");
        Check.due("the second is used up at once", Check.desk(5, 6, 7, 1).order(2), 1);
        Check.due("the first is used up at once", Check.desk(5, 1, 5, 6).order(2), 2);
        Check.due("the first is used up last", Check.desk(1, 5, 2, 4).order(2), 3);
        Check.due("the second is used up last", Check.desk(1, 4, 2, 5).order(2), 3);
        SortDesk same = Check.desk(1, 2, 1, 2);
        Check.due("the same keys", same.order(2), 3);
        Check.due("the same keys: tags", Check.tags(same), "[100, 102, 101, 103]");
        SortDesk extremes = Check.desk(0, MAX, MIN, MAX);
        Check.due("extreme keys", extremes.order(2), 3);
        Check.due("extreme keys: tags", Check.tags(extremes), "[102, 100, 101, 103]");
    }

    private static void joiningSteps() {
        Check.sentence("Each joining is a step: 2, the place where the first one begins, the place behind the second.");
        SortDesk desk = Check.falling(150);
        desk.order(2);
        Check.due("150 runs: steps", desk.steps(), 149);
        Check.due("150 runs: the first begins", desk.step(0, 1), 0);
        Check.due("150 runs: the first ends", desk.step(0, 2), 2);
        Check.due("150 runs: the 75th begins", desk.step(74, 1), 148);
        Check.due("150 runs: the 75th ends", desk.step(74, 2), 150);
        Check.due("150 runs: the last begins", desk.step(148, 1), 0);
        Check.due("150 runs: the last ends", desk.step(148, 2), 150);
    }

    private static void countingFit() {
        Check.sentence("3 COUNTING is fit if the greatest key is at most 500 above the least.");
        fit("no item", Check.desk(), 3, true);
        fit("one item", Check.desk(MIN), 3, true);
        fit("one key", Check.same(150, MAX), 3, true);
        fit("500 above", Check.desk(-200, 300), 3, true);
        fit("501 above", Check.desk(-200, 301), 3, false);
        fit("500 above, the greatest first", Check.desk(300, -200), 3, true);
        fit("501 above, the greatest first", Check.desk(301, -200), 3, false);
        fit("500 above at the least int", Check.desk(MIN, MIN + 500), 3, true);
        fit("501 above at the least int", Check.desk(MIN, MIN + 501), 3, false);
        fit("500 above at the greatest int", Check.desk(MAX - 500, MAX), 3, true);
        fit("501 above at the greatest int", Check.desk(MAX - 501, MAX), 3, false);
        fit("as an int, -1 above", Check.desk(MIN, MAX), 3, false);
        fit("as an int, the least int above", Check.desk(MIN, 0), 3, false);
    }

    private static void countingComparesNothing() {
        Check.sentence("It compares nothing. (COUNTING)");
        Check.due("no item", Check.desk().order(3), 0);
        Check.due("one item", Check.desk(1).order(3), 0);
        Check.due("150 items", Check.falling(150).order(3), 0);
        Check.due("150 items of one key", Check.same(150, 1).order(3), 0);
    }

    private static void countingSteps() {
        Check.sentence("For each key that two items or more have, the least first, a step: 3, the key, how many.");
        ordered("no item", Check.desk(), 3, 0, "");
        ordered("one item", Check.desk(1), 3, 0, "");
        ordered("one item of each key", Check.full(), 3, 0, "");
        ordered("two items", Check.desk(0, 0), 3, 0, "3,0,2");
        ordered("two items among others", Check.desk(1, 0, -1, 0), 3, 0, "3,0,2");
        ordered("150 items", Check.same(150, MIN), 3, 0, "3,-2147483648,150");
        ordered("the least and the greatest key", Check.desk(250, -250, 250, -250), 3, 0, "3,-250,2 3,250,2");
        ordered("at the least int", Check.desk(MIN + 500, MIN, MIN + 500, MIN), 3, 0,
            "3,-2147483648,2 3,-2147483148,2");
        ordered("at the greatest int", Check.desk(MAX, MAX - 500, MAX, MAX - 500), 3, 0,
            "3,2147483147,2 3,2147483647,2");
        SortDesk again = Check.desk(500, 0, 500, 0);
        again.order(3);
        ordered("once more", again, 3, 0, "3,0,2 3,500,2");
        SortDesk pairs = new SortDesk();
        for (int i = 0; i < 150; i++) {
            pairs.put(-i % 75, i);
        }
        pairs.order(3);
        Check.due("the most steps", pairs.steps(), 75);
        Check.due("the first of them", pairs.step(0, 1), -74);
        Check.due("the last of them", pairs.step(74, 1), 0);
    }

    private static void bytesFit() {
        Check.sentence("4 BY BYTES is fit always.");
        fit("no item", Check.desk(), 4, true);
        fit("one item", Check.desk(0), 4, true);
        fit("extreme keys", Check.desk(MIN, MAX, MIN), 4, true);
        fit("150 that rise", Check.full(), 4, true);
        fit("150 that fall", Check.falling(150), 4, true);
    }

    private static void bytesCompareNothing() {
        Check.sentence("It compares nothing. (BY BYTES)");
        Check.due("no item", Check.desk().order(4), 0);
        Check.due("one item", Check.desk(1).order(4), 0);
        Check.due("two items", Check.desk(MAX, MIN).order(4), 0);
        Check.due("150 items", Check.falling(150).order(4), 0);
    }

    private static void bytesWithSign() {
        Check.sentence("from the lowest byte of keys on, all are ordered by that byte (the highest as one with sign)");
        SortDesk desk = Check.desk(0, -1, MAX, MIN, 1, MIN + 1, 1 << 24, -1 << 24);
        desk.order(4);
        Check.due("the highest byte", Check.tags(desk), "[103, 105, 107, 101, 100, 104, 106, 102]");
        for (int number = 0; number < 3; number++) {
            int shift = 8 * number;
            SortDesk lower = Check.desk(0xff << shift, 0x80 << shift, 0x7f << shift, 0);
            lower.order(4);
            Check.due("byte " + number + ", without sign", Check.tags(lower), "[103, 102, 101, 100]");
        }
        SortDesk against = Check.desk(0x01ff, 0x0200, 0x01fe);
        against.order(4);
        Check.due("a higher byte counts more", Check.tags(against), "[102, 100, 101]");
    }

    private static void bytesSteps() {
        Check.sentence("each time that not all have the same, a step: 4, the number of the byte (0 the lowest)");
        ordered("no item", Check.desk(), 4, 0, "");
        ordered("one item", Check.desk(0x01020304), 4, 0, "");
        ordered("150 items of one key", Check.same(150, -1), 4, 0, "");
        ordered("the lowest byte alone", Check.desk(1, 0), 4, 0, "4,0,2");
        ordered("the second byte alone", Check.desk(1 << 8, 0), 4, 0, "4,1,2");
        ordered("the third byte alone", Check.desk(1 << 16, 0), 4, 0, "4,2,2");
        ordered("the highest byte alone", Check.desk(0, 1 << 24), 4, 0, "4,3,2");
        ordered("the sign alone", Check.desk(0, MIN), 4, 0, "4,3,2");
        ordered("every byte", Check.desk(0, -1), 4, 0, "4,0,2 4,1,2 4,2,2 4,3,2");
        ordered("one that differs, the last", Check.desk(7, 7, 7, 6), 4, 0, "4,0,2");
        ordered("150 different ones", Check.full(), 4, 0, "4,0,150");
        SortDesk high = new SortDesk();
        for (int i = 0; i < 150; i++) {
            high.put((i - 75) << 24, i);
        }
        ordered("150 different highest ones", high, 4, 0, "4,3,150");
    }

    private static void trail() {
        Check.sentence("THE TRAIL is the steps of the latest ordering, in their order.");
        SortDesk desk = Check.desk(3, 2, 1);
        Check.due("before any ordering", Check.trail(desk), "");
        desk.order(1);
        Check.due("the first ordering", Check.trail(desk), "1,1,0 1,2,0");
        Check.refused("one that was refused", () -> putIn(3, 2, 1), NOT_NOW, put -> put.order(0));
        desk.put(0, 0);
        desk.remove(0);
        Check.due("items come and go", Check.trail(desk), "1,1,0 1,2,0");
        desk.order(4);
        Check.due("a second ordering", Check.trail(desk), "4,0,3");
        desk.order(2);
        Check.due("one without steps", Check.trail(desk), "");
    }

    private static SortDesk putIn(int... keys) {
        SortDesk desk = Check.desk(keys);
        desk.order(1);
        return desk;
    }
}
