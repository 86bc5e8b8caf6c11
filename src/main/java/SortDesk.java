/**
 * A row of items that is put in order by one of five ways, which a table of rules chooses by
 * figures of the row. Every row that a call needs is made with the object, so that no call makes
 * anything but the exception that it throws.
 */
public final class SortDesk {
    public static final int NONE = -1;

    private static final int MOST_ITEMS = 150;
    private static final int MOST_RULES = 12;
    private static final int MOST_PUT_IN = 60;
    private static final int MOST_SPREAD = 500;

    // The most that any way tells: joining 150 runs of one item each takes 149 steps.
    private static final int MOST_STEPS = MOST_ITEMS;
    private static final int NUMBERS_OF_A_STEP = 3;

    private static final int FIGURE_COUNT = 8;

    private static final int WAY_COUNT = 5;
    private static final int TURNING = 0;
    private static final int PUTTING_IN = 1;
    private static final int JOINING = 2;
    private static final int COUNTING = 3;
    private static final int BY_BYTES = 4;

    private final Row row = new Row();
    private final Row before = new Row();
    private final RuleTable table = new RuleTable();
    private final Trail trail = new Trail();
    private final Way[] ways = new Way[WAY_COUNT];
    private final int[] places = new int[MOST_ITEMS];
    private final int[] orderings = new int[WAY_COUNT];
    private long comparisons;
    private boolean canPutBack;
    private boolean wentAstray;

    public SortDesk() {
        ways[TURNING] = new Turning();
        ways[PUTTING_IN] = new PuttingIn();
        ways[JOINING] = new Joining();
        ways[COUNTING] = new Counting();
        ways[BY_BYTES] = new ByBytes();
    }

    public int put(int key, int tag) throws UnsupportedOperationException {
        if (row.isFull()) {
            throw new UnsupportedOperationException("the row is full");
        }
        int place = row.size();
        row.open(place, key, tag);
        canPutBack = false;
        return place;
    }

    public int insert(int place, int key, int tag)
            throws IndexOutOfBoundsException, UnsupportedOperationException {
        if (place < 0 || place > row.size()) {
            throw new IndexOutOfBoundsException("no such place");
        }
        if (row.isFull()) {
            throw new UnsupportedOperationException("the row is full");
        }
        row.open(place, key, tag);
        canPutBack = false;
        return row.size();
    }

    public int remove(int place) throws IndexOutOfBoundsException {
        if (!row.has(place)) {
            throw new IndexOutOfBoundsException("no such place");
        }
        int key = row.key(place);
        row.close(place);
        canPutBack = false;
        return key;
    }

    public int at(int place, boolean tag) throws IndexOutOfBoundsException {
        if (!row.has(place)) {
            throw new IndexOutOfBoundsException("no such place");
        }
        return tag ? row.tag(place) : row.key(place);
    }

    public long figure(int what) throws IllegalArgumentException {
        if (!isFigure(what)) {
            throw new IllegalArgumentException("no such figure");
        }
        return row.measure(what);
    }

    public int rule(int figure, long least, long most, int way)
            throws IllegalArgumentException, UnsupportedOperationException {
        if (!isFigure(figure) || !isWay(way)) {
            throw new IllegalArgumentException("no such figure or way");
        }
        if (table.isFull()) {
            throw new UnsupportedOperationException("the table of rules is full");
        }
        return table.append(figure, least, most, way);
    }

    public int forget(int rule) throws IndexOutOfBoundsException {
        if (!table.has(rule)) {
            throw new IndexOutOfBoundsException("no such rule");
        }
        table.drop(rule);
        return table.size();
    }

    public int plan() {
        for (int i = 0; i < table.size(); i++) {
            int way = table.way(i);
            if (ways[way].suits(row) && table.admits(i, row)) {
                return way;
            }
        }
        return JOINING;
    }

    public boolean isFit(int way) throws IllegalArgumentException {
        if (!isWay(way)) {
            throw new IllegalArgumentException("no such way");
        }
        return ways[way].suits(row);
    }

    public int order(int way) throws IllegalArgumentException, IllegalStateException {
        if (way != NONE && !isWay(way)) {
            throw new IllegalArgumentException("no such way");
        }
        int chosen = way == NONE ? plan() : way;
        if (!ways[chosen].suits(row)) {
            throw new IllegalStateException("the way is not fit");
        }
        return arrangeBy(chosen);
    }

    public int putBack() throws IllegalStateException {
        if (!canPutBack) {
            throw new IllegalStateException("no ordering to put back");
        }
        row.copyFrom(before);
        trail.clear();
        canPutBack = false;
        return row.size();
    }

    public int steps() {
        return trail.size();
    }

    public int step(int i, int what) throws IndexOutOfBoundsException {
        if (!trail.has(i) || what < 0 || what >= NUMBERS_OF_A_STEP) {
            throw new IndexOutOfBoundsException("no such step or number of it");
        }
        return trail.number(i, what);
    }

    public int origin(int place) throws IndexOutOfBoundsException {
        if (!row.has(place)) {
            throw new IndexOutOfBoundsException("no such place");
        }
        return row.placeOfRank(place);
    }

    public int below(int key) {
        return row.drops() == 0 ? row.keysBelow(key) : NONE;
    }

    public long compared() {
        return comparisons;
    }

    public int times(int way) throws IllegalArgumentException {
        if (!isWay(way)) {
            throw new IllegalArgumentException("no such way");
        }
        return orderings[way];
    }

    public int astray() {
        return wentAstray ? 1 : 0;
    }

    private static boolean isFigure(int what) {
        return what >= 0 && what < FIGURE_COUNT;
    }

    private static boolean isWay(int way) {
        return way >= 0 && way < WAY_COUNT;
    }

    private int arrangeBy(int way) {
        before.copyFrom(row);
        trail.clear();
        for (int i = 0; i < before.size(); i++) {
            places[i] = i;
        }
        int often = ways[way].arrange(before, places, trail);
        row.arrangeFrom(before, places);
        comparisons += often;
        orderings[way]++;
        canPutBack = true;
        wentAstray = !isInOrder(before, places);
        return often;
    }

    // Places that rise strictly by key, then by themselves, are all different: so this also says
    // that no item was lost or doubled.
    private static boolean isInOrder(Row items, int[] places) {
        for (int i = 1; i < items.size(); i++) {
            if (!items.goesBefore(places[i - 1], places[i])) {
                return false;
            }
        }
        return true;
    }

    /** The items, and what can be measured of them. */
    private static final class Row {
        private final int[] keys = new int[MOST_ITEMS];
        private final int[] tags = new int[MOST_ITEMS];
        private int size;

        int size() {
            return size;
        }

        boolean isFull() {
            return size >= MOST_ITEMS;
        }

        boolean has(int place) {
            return place >= 0 && place < size;
        }

        int key(int place) {
            return keys[place];
        }

        int tag(int place) {
            return tags[place];
        }

        void open(int place, int key, int tag) {
            System.arraycopy(keys, place, keys, place + 1, size - place);
            System.arraycopy(tags, place, tags, place + 1, size - place);
            keys[place] = key;
            tags[place] = tag;
            size++;
        }

        void close(int place) {
            size--;
            System.arraycopy(keys, place + 1, keys, place, size - place);
            System.arraycopy(tags, place + 1, tags, place, size - place);
        }

        void copyFrom(Row other) {
            size = other.size;
            System.arraycopy(other.keys, 0, keys, 0, size);
            System.arraycopy(other.tags, 0, tags, 0, size);
        }

        void arrangeFrom(Row other, int[] places) {
            size = other.size;
            for (int i = 0; i < size; i++) {
                keys[i] = other.keys[places[i]];
                tags[i] = other.tags[places[i]];
            }
        }

        long measure(int what) {
            switch (what) {
                case 0: return size;
                case 1: return runs();
                case 2: return falls();
                case 3: return leastKey();
                case 4: return greatestKey();
                case 5: return drops();
                case 6: return inversions();
                default: return differentKeys();
            }
        }

        int runs() {
            return size == 0 ? 0 : drops() + 1;
        }

        int falls() {
            int count = 0;
            for (int i = 1; i < size; i++) {
                if (dropsBefore(i) && !dropsBefore(i - 1)) {
                    count++;
                }
            }
            return count;
        }

        int leastKey() {
            int least = size == 0 ? 0 : keys[0];
            for (int i = 1; i < size; i++) {
                least = Math.min(least, keys[i]);
            }
            return least;
        }

        int greatestKey() {
            int greatest = size == 0 ? 0 : keys[0];
            for (int i = 1; i < size; i++) {
                greatest = Math.max(greatest, keys[i]);
            }
            return greatest;
        }

        int drops() {
            int count = 0;
            for (int i = 1; i < size; i++) {
                if (dropsBefore(i)) {
                    count++;
                }
            }
            return count;
        }

        boolean dropsBefore(int place) {
            return place > 0 && keys[place - 1] > keys[place];
        }

        int inversions() {
            int count = 0;
            for (int i = 1; i < size; i++) {
                for (int j = 0; j < i; j++) {
                    if (keys[j] > keys[i]) {
                        count++;
                    }
                }
            }
            return count;
        }

        int differentKeys() {
            int count = 0;
            for (int i = 0; i < size; i++) {
                if (isFirstOfItsKey(i)) {
                    count++;
                }
            }
            return count;
        }

        boolean isFirstOfItsKey(int place) {
            for (int i = 0; i < place; i++) {
                if (keys[i] == keys[place]) {
                    return false;
                }
            }
            return true;
        }

        int keysBelow(int key) {
            int count = 0;
            for (int i = 0; i < size; i++) {
                if (keys[i] < key) {
                    count++;
                }
            }
            return count;
        }

        boolean goesBefore(int place, int other) {
            return keys[place] < keys[other] || (keys[place] == keys[other] && place < other);
        }

        int rank(int place) {
            int count = 0;
            for (int i = 0; i < size; i++) {
                if (goesBefore(i, place)) {
                    count++;
                }
            }
            return count;
        }

        int placeOfRank(int rank) {
            int found = 0;
            for (int i = 0; i < size; i++) {
                if (rank(i) == rank) {
                    found = i;
                }
            }
            return found;
        }
    }

    /** The rules, in the order in which they are tried. */
    private static final class RuleTable {
        private final int[] figures = new int[MOST_RULES];
        private final long[] leasts = new long[MOST_RULES];
        private final long[] mosts = new long[MOST_RULES];
        private final int[] chosenWays = new int[MOST_RULES];
        private int size;

        int size() {
            return size;
        }

        boolean isFull() {
            return size >= MOST_RULES;
        }

        boolean has(int number) {
            return number >= 0 && number < size;
        }

        int append(int figure, long least, long most, int way) {
            figures[size] = figure;
            leasts[size] = least;
            mosts[size] = most;
            chosenWays[size] = way;
            size++;
            return size - 1;
        }

        void drop(int number) {
            size--;
            for (int i = number; i < size; i++) {
                figures[i] = figures[i + 1];
                leasts[i] = leasts[i + 1];
                mosts[i] = mosts[i + 1];
                chosenWays[i] = chosenWays[i + 1];
            }
        }

        int way(int number) {
            return chosenWays[number];
        }

        boolean admits(int number, Row items) {
            long value = items.measure(figures[number]);
            return value >= leasts[number] && value <= mosts[number];
        }
    }

    /** The steps of the latest ordering. */
    private static final class Trail {
        private final int[] numbers = new int[MOST_STEPS * NUMBERS_OF_A_STEP];
        private int size;

        int size() {
            return size;
        }

        boolean has(int i) {
            return i >= 0 && i < size;
        }

        int number(int i, int what) {
            return numbers[i * NUMBERS_OF_A_STEP + what];
        }

        void clear() {
            size = 0;
        }

        void add(int way, int first, int second) {
            int from = size * NUMBERS_OF_A_STEP;
            numbers[from] = way;
            numbers[from + 1] = first;
            numbers[from + 2] = second;
            size++;
        }
    }

    /**
     * A way moves no items: it brings their places, given in the order of the row, into the order
     * of their keys, so that what became of each item can be seen afterwards.
     */
    private abstract static class Way {
        abstract boolean suits(Row items);

        /** Answers how often it compared. Asked only of a row that it suits. */
        abstract int arrange(Row items, int[] places, Trail trail);
    }

    private static final class Turning extends Way {
        @Override
        boolean suits(Row items) {
            return items.drops() >= items.size() - 1;
        }

        @Override
        int arrange(Row items, int[] places, Trail trail) {
            int size = items.size();
            if (size < 2) {
                return 0;
            }
            for (int i = 0; i < size / 2; i++) {
                int place = places[i];
                places[i] = places[size - 1 - i];
                places[size - 1 - i] = place;
            }
            trail.add(TURNING, 0, size);
            return size - 1;
        }
    }

    private static final class PuttingIn extends Way {
        @Override
        boolean suits(Row items) {
            return items.size() <= MOST_PUT_IN;
        }

        @Override
        int arrange(Row items, int[] places, Trail trail) {
            int often = 0;
            for (int from = 1; from < items.size(); from++) {
                int to = target(items, places, from);
                // One comparison for each item that it passes, and one that stops it unless it
                // has come to the front.
                often += from - to + (to > 0 ? 1 : 0);
                if (to < from) {
                    carry(places, from, to);
                    trail.add(PUTTING_IN, from, to);
                }
            }
            return often;
        }

        private static int target(Row items, int[] places, int from) {
            int key = items.key(places[from]);
            int to = from;
            while (to > 0 && items.key(places[to - 1]) > key) {
                to--;
            }
            return to;
        }

        private static void carry(int[] places, int from, int to) {
            int place = places[from];
            System.arraycopy(places, to, places, to + 1, from - to);
            places[to] = place;
        }
    }

    private static final class Joining extends Way {
        // Where each run begins; behind the last one stands where it ends.
        private final int[] starts = new int[MOST_ITEMS + 1];
        private final int[] joined = new int[MOST_ITEMS];

        @Override
        boolean suits(Row items) {
            return true;
        }

        @Override
        int arrange(Row items, int[] places, Trail trail) {
            int often = 0;
            for (int runs = findRuns(items); runs > 1; runs = (runs + 1) / 2) {
                often += joinPairs(items, places, trail, runs);
                keepEverySecondStart(runs);
            }
            return often;
        }

        private int findRuns(Row items) {
            int runs = 0;
            for (int i = 0; i < items.size(); i++) {
                if (i == 0 || items.dropsBefore(i)) {
                    starts[runs] = i;
                    runs++;
                }
            }
            starts[runs] = items.size();
            return runs;
        }

        private int joinPairs(Row items, int[] places, Trail trail, int runs) {
            int often = 0;
            for (int i = 0; i + 1 < runs; i += 2) {
                often += join(items, places, starts[i], starts[i + 1], starts[i + 2]);
                trail.add(JOINING, starts[i], starts[i + 2]);
            }
            return often;
        }

        private void keepEverySecondStart(int runs) {
            int end = starts[runs];
            int left = (runs + 1) / 2;
            for (int i = 1; i < left; i++) {
                starts[i] = starts[2 * i];
            }
            starts[left] = end;
        }

        private int join(Row items, int[] places, int begin, int middle, int end) {
            int first = begin;
            int second = middle;
            int to = begin;
            while (first < middle && second < end) {
                if (items.key(places[first]) > items.key(places[second])) {
                    joined[to] = places[second];
                    second++;
                } else {
                    joined[to] = places[first];
                    first++;
                }
                to++;
            }
            // Each comparison has brought one item over.
            int often = to - begin;
            System.arraycopy(places, first, joined, to, middle - first);
            System.arraycopy(places, second, joined, to + middle - first, end - second);
            System.arraycopy(joined, begin, places, begin, end - begin);
            return often;
        }
    }

    private static final class Counting extends Way {
        private final int[] counts = new int[MOST_SPREAD + 1];
        private final int[] nexts = new int[MOST_SPREAD + 1];

        @Override
        boolean suits(Row items) {
            return (long) items.greatestKey() - items.leastKey() <= MOST_SPREAD;
        }

        @Override
        int arrange(Row items, int[] places, Trail trail) {
            int least = items.leastKey();
            int spread = items.greatestKey() - least;
            countKeys(items, least, spread);
            int next = 0;
            for (int i = 0; i <= spread; i++) {
                nexts[i] = next;
                next += counts[i];
                if (counts[i] > 1) {
                    trail.add(COUNTING, least + i, counts[i]);
                }
            }
            dealOut(items, least, places);
            return 0;
        }

        private void countKeys(Row items, int least, int spread) {
            for (int i = 0; i <= spread; i++) {
                counts[i] = 0;
            }
            for (int i = 0; i < items.size(); i++) {
                counts[items.key(i) - least]++;
            }
        }

        // The places come in as they stand in the row, so place i is simply i.
        private void dealOut(Row items, int least, int[] places) {
            for (int i = 0; i < items.size(); i++) {
                int offset = items.key(i) - least;
                places[nexts[offset]] = i;
                nexts[offset]++;
            }
        }
    }

    private static final class ByBytes extends Way {
        private static final int BYTES = 4;
        private static final int VALUES = 256;
        private static final int SIGN = 128;

        private final int[] nexts = new int[VALUES];
        private final int[] dealt = new int[MOST_ITEMS];

        @Override
        boolean suits(Row items) {
            return true;
        }

        @Override
        int arrange(Row items, int[] places, Trail trail) {
            for (int number = 0; number < BYTES; number++) {
                int different = findNexts(items, number);
                if (different > 1) {
                    dealOut(items, number, places);
                    trail.add(BY_BYTES, number, different);
                }
            }
            return 0;
        }

        private int findNexts(Row items, int number) {
            for (int i = 0; i < VALUES; i++) {
                nexts[i] = 0;
            }
            for (int i = 0; i < items.size(); i++) {
                nexts[digit(items.key(i), number)]++;
            }
            int different = 0;
            int next = 0;
            for (int i = 0; i < VALUES; i++) {
                int count = nexts[i];
                nexts[i] = next;
                next += count;
                if (count > 0) {
                    different++;
                }
            }
            return different;
        }

        private void dealOut(Row items, int number, int[] places) {
            int size = items.size();
            for (int i = 0; i < size; i++) {
                int digit = digit(items.key(places[i]), number);
                dealt[nexts[digit]] = places[i];
                nexts[digit]++;
            }
            System.arraycopy(dealt, 0, places, 0, size);
        }

        // Turning the sign's bit round lets the negative bytes come before the others.
        private static int digit(int key, int number) {
            int value = (key >> (8 * number)) & (VALUES - 1);
            return number == BYTES - 1 ? value ^ SIGN : value;
        }
    }
}
