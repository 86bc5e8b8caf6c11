import java.util.ArrayList;
import java.util.Comparator;
import java.util.List;
import java.util.TreeMap;
import java.util.TreeSet;

/** The document told once more, by other means: lists, maps and the library's sorting. */
final class Model {
    private record Item(int key, int tag) {
    }

    private record Rule(int figure, long least, long most, int way) {
    }

    private List<Item> items = new ArrayList<>();
    private final List<Rule> rules = new ArrayList<>();
    private List<int[]> trail = new ArrayList<>();
    private List<Item> before = null;
    private final int[] times = new int[5];
    private long compared = 0;

    int put(int key, int tag) {
        if (items.size() == 150) {
            throw new UnsupportedOperationException();
        }
        items.add(new Item(key, tag));
        before = null;
        return items.size() - 1;
    }

    int insert(int place, int key, int tag) {
        if (place < 0 || place > items.size()) {
            throw new IndexOutOfBoundsException();
        }
        put(0, 0);
        items.remove(items.size() - 1);
        items.add(place, new Item(key, tag));
        return items.size();
    }

    int remove(int place) {
        needPlace(place, items.size());
        before = null;
        return items.remove(place).key();
    }

    int at(int place, boolean tag) {
        needPlace(place, items.size());
        return tag ? items.get(place).tag() : items.get(place).key();
    }

    long figure(int what) {
        needKind(what, 8);
        TreeSet<Integer> keys = new TreeSet<>();
        items.forEach(item -> keys.add(item.key()));
        if (keys.isEmpty()) {
            return 0;
        }
        long[] figures = {items.size(), runs().size(), falls(), keys.first(), keys.last(), runs().size() - 1,
            inversions(), keys.size()};
        return figures[what];
    }

    int rule(int figure, long least, long most, int way) {
        needKind(figure, 8);
        needKind(way, 5);
        if (rules.size() == 12) {
            throw new UnsupportedOperationException();
        }
        rules.add(new Rule(figure, least, most, way));
        return rules.size() - 1;
    }

    int forget(int rule) {
        needPlace(rule, rules.size());
        rules.remove(rule);
        return rules.size();
    }

    int plan() {
        return rules.stream()
            .filter(rule -> rule.least() <= figure(rule.figure()) && figure(rule.figure()) <= rule.most())
            .filter(rule -> isFit(rule.way()))
            .map(Rule::way).findFirst().orElse(2);
    }

    boolean isFit(int way) {
        needKind(way, 5);
        return switch (way) {
            case 0 -> runs().size() == items.size();
            case 1 -> items.size() <= 60;
            case 3 -> figure(4) - figure(3) <= 500;
            default -> true;
        };
    }

    int order(int way) {
        int chosen = way == -1 ? plan() : way;
        if (!isFit(chosen)) {
            throw new IllegalStateException();
        }
        trail = new ArrayList<>();
        int often = switch (chosen) {
            case 0 -> tellTurning();
            case 1 -> tellPuttingIn();
            case 2 -> tellJoining();
            case 3 -> tellCounting();
            default -> tellBytes();
        };
        before = items;
        items = sorted(items);
        compared += often;
        times[chosen]++;
        return often;
    }

    int putBack() {
        if (before == null) {
            throw new IllegalStateException();
        }
        items = before;
        before = null;
        trail = new ArrayList<>();
        return items.size();
    }

    int steps() {
        return trail.size();
    }

    int step(int i, int what) {
        needPlace(i, trail.size());
        needPlace(what, 3);
        return trail.get(i)[what];
    }

    int origin(int place) {
        needPlace(place, items.size());
        List<Integer> places = new ArrayList<>();
        for (int i = 0; i < items.size(); i++) {
            places.add(i);
        }
        places.sort(Comparator.comparingInt(i -> items.get(i).key()));
        return places.get(place);
    }

    int below(int key) {
        return runs().size() > 1 ? -1 : (int) items.stream().filter(item -> item.key() < key).count();
    }

    long compared() {
        return compared;
    }

    int times(int way) {
        needKind(way, 5);
        return times[way];
    }

    int astray() {
        return 0;
    }

    private static void needPlace(int place, int size) {
        if (place < 0 || place >= size) {
            throw new IndexOutOfBoundsException();
        }
    }

    private static void needKind(int kind, int count) {
        if (kind < 0 || kind >= count) {
            throw new IllegalArgumentException();
        }
    }

    private static List<Item> sorted(List<Item> some) {
        List<Item> copy = new ArrayList<>(some);
        copy.sort(Comparator.comparingInt(Item::key));
        return copy;
    }

    private List<List<Item>> runs() {
        List<List<Item>> runs = new ArrayList<>();
        int last = 0;
        for (Item item : items) {
            if (runs.isEmpty() || item.key() < last) {
                runs.add(new ArrayList<>());
            }
            runs.get(runs.size() - 1).add(item);
            last = item.key();
        }
        return runs;
    }

    private int falls() {
        int falls = 0;
        int length = 1;
        for (int i = 1; i < items.size(); i++) {
            length = items.get(i).key() < items.get(i - 1).key() ? length + 1 : 1;
            falls += length == 2 ? 1 : 0;
        }
        return falls;
    }

    private int inversions() {
        int inversions = 0;
        for (int i = 0; i < items.size(); i++) {
            int key = items.get(i).key();
            inversions += (int) items.subList(i, items.size()).stream().filter(item -> item.key() < key).count();
        }
        return inversions;
    }

    private int tellTurning() {
        if (items.size() >= 2) {
            trail.add(new int[] {0, 0, items.size()});
        }
        return Math.max(0, items.size() - 1);
    }

    private int tellPuttingIn() {
        int often = 0;
        for (int i = 1; i < items.size(); i++) {
            int key = items.get(i).key();
            int greater = (int) items.subList(0, i).stream().filter(item -> item.key() > key).count();
            often += Math.min(i, greater + 1);
            if (greater > 0) {
                trail.add(new int[] {1, i, i - greater});
            }
        }
        return often;
    }

    private int tellJoining() {
        int often = 0;
        List<List<Item>> runs = runs();
        while (runs.size() >= 2) {
            List<List<Item>> made = new ArrayList<>();
            int begin = 0;
            for (int i = 0; i < runs.size(); i += 2) {
                List<Item> both = new ArrayList<>(runs.get(i));
                if (i + 1 < runs.size()) {
                    often += comparisons(runs.get(i), runs.get(i + 1));
                    both.addAll(runs.get(i + 1));
                    trail.add(new int[] {2, begin, begin + both.size()});
                }
                made.add(sorted(both));
                begin += both.size();
            }
            runs = made;
        }
        return often;
    }

    // Each comparison brings one item over, until one run is used up: all but those that are left.
    private static int comparisons(List<Item> first, List<Item> second) {
        int lastOfFirst = first.get(first.size() - 1).key();
        int lastOfSecond = second.get(second.size() - 1).key();
        long left = lastOfFirst > lastOfSecond
            ? first.stream().filter(item -> item.key() > lastOfSecond).count()
            : second.stream().filter(item -> item.key() >= lastOfFirst).count();
        return first.size() + second.size() - (int) left;
    }

    private int tellCounting() {
        TreeMap<Integer, Integer> counts = new TreeMap<>();
        items.forEach(item -> counts.merge(item.key(), 1, Integer::sum));
        counts.forEach((key, count) -> {
            if (count >= 2) {
                trail.add(new int[] {3, key, count});
            }
        });
        return 0;
    }

    private int tellBytes() {
        for (int number = 0; number < 4; number++) {
            TreeSet<Byte> different = new TreeSet<>();
            for (Item item : items) {
                different.add((byte) (item.key() >> (8 * number)));
            }
            if (different.size() >= 2) {
                trail.add(new int[] {4, number, different.size()});
            }
        }
        return 0;
    }
}
