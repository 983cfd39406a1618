import java.util.ArrayList;
import java.util.Comparator;
import java.util.HashMap;
import java.util.List;
import java.util.Map;
import java.util.TreeSet;
import java.util.function.IntUnaryOperator;
import java.util.stream.IntStream;

/**
 * The document said over again, in the slowest and plainest way that was found, and where it could be another way
 * than that of ScaleGroups: GROUPS are what hangs together by PAIRS that are near enough, corners are found by
 * looking along every two POINTS, ways are walked. Tests hold the answers of ScaleGroups against it.
 */
final class Oracle {
    static final int NONE = -1;

    record Place(int x, int y) {
        int apart(Place other) {
            return (x - other.x) * (x - other.x) + (y - other.y) * (y - other.y);
        }

        int gap(Place other) {
            return Math.max(Math.abs(x - other.x), Math.abs(y - other.y));
        }
    }

    record Pair(Place first, Place other) {
        int apart() {
            return first.apart(other);
        }
    }

    /** A JOIN with the POINTS of its SIDES; a NODE is its number, as in the document. */
    record Join(int first, int other, int apart, TreeSet<Integer> firstSide, TreeSet<Integer> otherSide,
            TreeSet<Integer> part) {
    }

    private List<Place> places = new ArrayList<>();
    private List<Place> placesAhead = new ArrayList<>();
    private List<Integer> weights = new ArrayList<>();
    private boolean repairedYet = false;
    private int size = 64;
    private long state = 0;
    // What was worked out for places stays right for these: kept till POINTS come or go, as tests ask often.
    private final Map<List<Place>, List<Join>> joinsKept = new HashMap<>();
    private final Map<Integer, Map<List<Place>, List<TreeSet<Integer>>>> groupsKept = new HashMap<>();

    // ---- POINTS come and go

    int add(int x, int y, int weight) {
        if (weight < 1 || weight > 99 || !canCome(x, y)) {
            return NONE;
        }
        openRepair();
        put(x, y, weight);
        return newPairs().size();
    }

    int take(int point) {
        if (!isPoint(point)) {
            return NONE;
        }
        openRepair();
        places.remove(point);
        weights.remove(point);
        return newPairs().size();
    }

    int weigh(int point, int weight) {
        if (!isPoint(point) || weight < 1 || weight > 99) {
            return NONE;
        }
        return weights.set(point, weight);
    }

    int scatter(int n) {
        if (n < 1 || n > 24) {
            return NONE;
        }
        openRepair();
        int before = places.size();
        for (int i = 0; i < n; i++) {
            int x = draw(1024);
            int y = draw(1024);
            int weight = draw(99) + 1;
            if (canCome(x, y)) {
                put(x, y, weight);
            }
        }
        return places.size() - before;
    }

    int state(int v) {
        int before = (int) state;
        state = v & 0xffffffffL;
        return before;
    }

    int clear() {
        openRepair();
        int gone = places.size();
        places.clear();
        weights.clear();
        return gone;
    }

    int size(int v) {
        if (v < 0 || v > 999) {
            return NONE;
        }
        int before = size;
        size = v;
        return before;
    }

    private void openRepair() {
        placesAhead = new ArrayList<>(places);
        repairedYet = true;
        joinsKept.clear();
        groupsKept.clear();
    }

    private void put(int x, int y, int weight) {
        Comparator<Place> byPlace = Comparator.comparingInt(Place::x).thenComparingInt(Place::y);
        Place place = new Place(x, y);
        int i = (int) places.stream().filter(p -> byPlace.compare(p, place) < 0).count();
        places.add(i, place);
        weights.add(i, weight);
    }

    private boolean canCome(int x, int y) {
        return x >= 0 && x <= 1023 && y >= 0 && y <= 1023 && places.size() < 24 && !places.contains(new Place(x, y));
    }

    private int draw(int m) {
        state = (1664525L * state + 1013904223L) & 0xffffffffL;
        return (int) ((state >> 8) % m);
    }

    // ---- POINTS

    int point(int point, int what) {
        if (!isPoint(point)) {
            return NONE;
        }
        Pair firstPair = null;
        for (Pair pair : pairsInOrder(places)) {
            if (firstPair == null && (pair.first.equals(places.get(point)) || pair.other.equals(places.get(point)))) {
                firstPair = pair;
            }
        }
        switch (what) {
            case 0: return places.get(point).x;
            case 1: return places.get(point).y;
            case 2: return weights.get(point);
            case 3: return firstPair == null ? NONE
                    : places.indexOf(firstPair.first) + places.indexOf(firstPair.other) - point;
            case 4: return firstPair == null ? NONE : firstPair.apart();
            case 5: return linked(point).size();
            default: return NONE;
        }
    }

    int at(int x, int y) {
        return places.indexOf(new Place(x, y));
    }

    int near(int x, int y, int k) {
        if (Math.abs((long) x) > 9999 || Math.abs((long) y) > 9999) {
            return NONE;
        }
        Place from = new Place(x, y);
        List<Integer> sorted = new ArrayList<>(all());
        sorted.sort(Comparator.comparingInt(p -> places.get(p).apart(from)));
        return nth(sorted, k);
    }

    // ---- JOINS and TREE

    int join(int join, int what) {
        List<Join> joins = joins(places);
        if (join < 0 || join >= joins.size()) {
            return NONE;
        }
        Join it = joins.get(join);
        switch (what) {
            case 0: return it.apart;
            case 1: return it.first;
            case 2: return it.other;
            case 3: return it.part().size();
            case 4: return weightOf(it.part());
            case 5: return nodeOf(joins, it.firstSide);
            case 6: return nodeOf(joins, it.otherSide);
            case 7: return above(joins, it.part());
            case 8: return lasts(joins, it.part());
            case 9: return pairs(placesAhead).contains(pairs(places).get(join)) ? 0 : 1;
            default: return NONE;
        }
    }

    int meets(int p, int q) {
        if (!isPoint(p) || !isPoint(q) || p == q) {
            return NONE;
        }
        List<Join> joins = joins(places);
        int join = 0;
        while (!joins.get(join).part().containsAll(List.of(p, q))) {
            join++;
        }
        return join;
    }

    int path(int p, int q, int i) {
        if (!isPoint(p) || !isPoint(q)) {
            return NONE;
        }
        List<Integer> way = way(p, q, NONE);
        return i == NONE ? way.size() - 1 : nth(way, i);
    }

    int longest(int what) {
        if (places.size() < 2 || what < 0 || what > 2) {
            return NONE;
        }
        int[] found = {NONE, NONE, NONE};
        for (int p = 0; p < places.size(); p++) {
            for (int q = p + 1; q < places.size(); q++) {
                int length = 0;
                List<Integer> way = way(p, q, NONE);
                for (int i = 1; i < way.size(); i++) {
                    length += root(places.get(way.get(i - 1)).apart(places.get(way.get(i))));
                }
                if (length > found[0]) {
                    found = new int[] {length, p, q};
                }
            }
        }
        return found[what];
    }

    int zoom(int p, int q) {
        if (!isPoint(p) || !isPoint(q) || p == q) {
            return NONE;
        }
        int z = 10;
        while (z >= 0 && groupOf(z, p) != groupOf(z, q)) {
            z--;
        }
        return z;
    }

    // ---- GROUPS

    int groups(int z) {
        return isZoom(z) ? groupSets(places, z).size() : NONE;
    }

    int groupOf(int z, int point) {
        if (!isZoom(z) || !isPoint(point)) {
            return NONE;
        }
        List<TreeSet<Integer>> sets = groupSets(places, z);
        return IntStream.range(0, sets.size()).filter(g -> sets.get(g).contains(point)).findFirst().getAsInt();
    }

    int group(int z, int group, int what) {
        TreeSet<Integer> set = groupSet(z, group);
        if (set == null) {
            return NONE;
        }
        switch (what) {
            case 0: return set.first();
            case 1: return set.size();
            case 2: return weightOf(set);
            case 3: return of(set, p -> places.get(p).x).min().getAsInt();
            case 4: return of(set, p -> places.get(p).x).max().getAsInt();
            case 5: return of(set, p -> places.get(p).y).min().getAsInt();
            case 6: return of(set, p -> places.get(p).y).max().getAsInt();
            case 7: return centre(set).x;
            case 8: return centre(set).y;
            case 9: return set.stream().max(Comparator.<Integer>comparingInt(p -> weights.get(p))
                    .thenComparing(Comparator.reverseOrder())).get();
            case 10: return maker(joins(places), set);
            case 11: return z == 10 ? 1 : parts(set, z + 1).size();
            case 12: return wide(set);
            default: return NONE;
        }
    }

    int member(int z, int group, int i) {
        TreeSet<Integer> set = groupSet(z, group);
        return set == null ? NONE : nth(new ArrayList<>(set), i);
    }

    int splits(int z, int group, int i) {
        TreeSet<Integer> set = groupSet(z, group);
        return set == null || z == 10 ? NONE : nth(parts(set, z + 1), i);
    }

    // ---- what is where

    int window(int z, int x0, int x1, int y0, int y1, int what) {
        if (!isZoom(z)) {
            return NONE;
        }
        TreeSet<Integer> centred = new TreeSet<>();
        List<TreeSet<Integer>> sets = groupSets(places, z);
        int weight = 0;
        for (int g = 0; g < sets.size(); g++) {
            if (isIn(centre(sets.get(g)), x0, x1, y0, y1)) {
                centred.add(g);
                weight += weightOf(sets.get(g));
            }
        }
        TreeSet<Integer> inside = pointsIn(x0, x1, y0, y1);
        switch (what) {
            case 0: return centred.size();
            case 1: return weight;
            case 2: return inside.size();
            case 3: return weightOf(inside);
            default: return NONE;
        }
    }

    int top(int z, int x0, int x1, int y0, int y1, int i) {
        if (!isZoom(z)) {
            return NONE;
        }
        List<TreeSet<Integer>> sets = groupSets(places, z);
        List<Integer> sorted = byWeight(sets);
        sorted.removeIf(g -> !isIn(centre(sets.get(g)), x0, x1, y0, y1));
        return nth(sorted, i);
    }

    int filled(int z, int i) {
        if (!isZoom(z)) {
            return NONE;
        }
        int side = 1024 >> z;
        TreeSet<Integer> tiles = new TreeSet<>();
        for (Place place : places) {
            tiles.add(1024 * (place.y / side) + place.x / side);
        }
        return i == NONE ? tiles.size() : nth(new ArrayList<>(tiles), i);
    }

    int densest(int z, int what) {
        if (!isZoom(z) || places.isEmpty() || what < 0 || what > 3) {
            return NONE;
        }
        int side = 1024 >> z;
        int[] found = {0, 0, NONE, 0};
        for (int x : places.stream().mapToInt(Place::x).sorted().toArray()) {
            for (int y : places.stream().mapToInt(Place::y).sorted().toArray()) {
                TreeSet<Integer> inside = pointsIn(x, x + side - 1, y, y + side - 1);
                if (weightOf(inside) > found[2]) {
                    found = new int[] {x, y, weightOf(inside), inside.size()};
                }
            }
        }
        return found[what];
    }

    int cover(int z, int group) {
        TreeSet<Integer> set = groupSet(z, group);
        return set == null ? NONE : coverIn(0, 0, 1024, set);
    }

    private int coverIn(int x, int y, int side, TreeSet<Integer> set) {
        TreeSet<Integer> inside = pointsIn(x, x + side - 1, y, y + side - 1);
        if (inside.isEmpty()) {
            return 0;
        }
        if (set.containsAll(inside)) {
            return 1;
        }
        int half = side / 2;
        return half == 0 ? 0 : coverIn(x, y, half, set) + coverIn(x + half, y, half, set)
                + coverIn(x, y + half, half, set) + coverIn(x + half, y + half, half, set);
    }

    int outline(int z, int group, int i) {
        TreeSet<Integer> set = groupSet(z, group);
        if (set == null) {
            return NONE;
        }
        List<Integer> corners = corners(set);
        return i == NONE ? corners.size() : nth(corners, i);
    }

    int area(int z, int group) {
        TreeSet<Integer> set = groupSet(z, group);
        if (set == null) {
            return NONE;
        }
        List<Integer> corners = corners(set);
        int area = 0;
        for (int i = 2; i < corners.size(); i++) {
            area += turn(corners.get(0), corners.get(i - 1), corners.get(i));
        }
        return area;
    }

    /** From the least POINT on, always to the one that has all others on its left or between. */
    private List<Integer> corners(TreeSet<Integer> set) {
        List<Integer> corners = new ArrayList<>();
        int corner = set.first();
        do {
            corners.add(corner);
            corner = nextCorner(set, corner);
        } while (corner != NONE && corner != set.first());
        return corners;
    }

    private int nextCorner(TreeSet<Integer> set, int from) {
        for (int to : set) {
            boolean isNext = to != from;
            for (int other : set) {
                int turn = turn(from, to, other);
                isNext &= turn > 0 || turn == 0 && isBetween(other, from, to);
            }
            if (isNext) {
                return to;
            }
        }
        return NONE;
    }

    private boolean isBetween(int p, int a, int b) {
        return p >= Math.min(a, b) && p <= Math.max(a, b);
    }

    private int turn(int a, int b, int c) {
        Place pa = places.get(a);
        Place pb = places.get(b);
        Place pc = places.get(c);
        return (pb.x - pa.x) * (pc.y - pa.y) - (pb.y - pa.y) * (pc.x - pa.x);
    }

    int drift(int z) {
        if (z < 0 || z > 9) {
            return NONE;
        }
        int sum = 0;
        for (TreeSet<Integer> set : groupSets(places, z)) {
            for (int g : parts(set, z + 1)) {
                sum += centre(groupSets(places, z + 1).get(g)).gap(centre(set));
            }
        }
        return sum;
    }

    int tile(int z, int tx, int ty, int what) {
        if (!isZoom(z) || tx < 0 || ty < 0 || tx >= 1 << z || ty >= 1 << z) {
            return NONE;
        }
        int side = 1024 >> z;
        int x = tx * side;
        int y = ty * side;
        TreeSet<Integer> inside = pointsIn(x, x + side - 1, y, y + side - 1);
        switch (what) {
            case 0: return inside.size();
            case 1: return weightOf(inside);
            case 2: return window(z, x, x + side - 1, y, y + side - 1, 0);
            case 3:
                int quarters = 0;
                for (int p : inside) {
                    boolean right = 2 * (places.get(p).x - x) >= side;
                    boolean upper = 2 * (places.get(p).y - y) >= side;
                    quarters |= 1 << (right ? 1 : 0) + (upper ? 2 : 0);
                }
                return z == 10 ? 0 : quarters;
            default: return NONE;
        }
    }

    // ---- parts and how long they last

    int part(int k, int point) {
        if (k < 1 || k > places.size() || !isPoint(point)) {
            return NONE;
        }
        int least = point;
        for (Join join : joins(places).subList(0, places.size() - k)) {
            if (join.part().contains(point)) {
                least = join.part().first();
            }
        }
        return least;
    }

    int clearest() {
        List<Join> joins = joins(places);
        int points = places.size();
        int found = NONE;
        int greatest = NONE;
        for (int k = 2; k <= points - 1; k++) {
            int rise = root(joins.get(points - k).apart) - root(joins.get(points - k - 1).apart);
            if (rise > greatest) {
                greatest = rise;
                found = k;
            }
        }
        return found;
    }

    int best(int what) {
        List<Join> joins = joins(places);
        List<TreeSet<Integer>> nodes = places.isEmpty() ? new ArrayList<>() : bestOf(joins, new TreeSet<>(all()));
        nodes.sort(Comparator.comparing(TreeSet::first));
        if (what == 0) {
            return nodes.stream().mapToInt(node -> lasts(joins, node)).sum();
        }
        if (what == 1) {
            return nodes.size();
        }
        return what >= 10 && what - 10 < nodes.size() ? nodeOf(joins, nodes.get(what - 10)) : NONE;
    }

    private List<TreeSet<Integer>> bestOf(List<Join> joins, TreeSet<Integer> node) {
        List<TreeSet<Integer>> sides = new ArrayList<>();
        int maker = maker(joins, node);
        if (maker != NONE) {
            sides.addAll(bestOf(joins, joins.get(maker).firstSide));
            sides.addAll(bestOf(joins, joins.get(maker).otherSide));
        }
        int together = sides.stream().mapToInt(side -> lasts(joins, side)).sum();
        return maker == NONE || lasts(joins, node) >= together ? new ArrayList<>(List.of(node)) : sides;
    }

    // ---- LABELS

    int shown(int z) {
        return isZoom(z) ? shownAt(z).size() : NONE;
    }

    int label(int z, int i, int what) {
        if (!isZoom(z) || i < 0 || i >= shownAt(z).size()) {
            return NONE;
        }
        int group = shownAt(z).get(i);
        int weight = 0;
        int with = NONE;
        for (int g = 0; g < groups(z); g++) {
            if (counted(z, g) == group) {
                weight += group(z, g, 2);
                with++;
            }
        }
        switch (what) {
            case 0: return group;
            case 1: return weight;
            case 2: return with;
            default: return NONE;
        }
    }

    int counted(int z, int group) {
        TreeSet<Integer> set = groupSet(z, group);
        if (set == null) {
            return NONE;
        }
        List<Integer> shown = shownAt(z);
        if (shown.contains(group)) {
            return group;
        }
        List<TreeSet<Integer>> sets = groupSets(places, z);
        return shown.stream().min(Comparator.comparingInt(g -> centre(sets.get(g)).gap(centre(set)))).get();
    }

    private List<Integer> shownAt(int z) {
        List<TreeSet<Integer>> sets = groupSets(places, z);
        List<Integer> shown = new ArrayList<>();
        for (int g : byWeight(sets)) {
            Place centre = centre(sets.get(g));
            if (shown.stream().allMatch(s -> centre(sets.get(s)).gap(centre) * (1 << z) > size)) {
                shown.add(g);
            }
        }
        return shown;
    }

    // ---- REPAIR

    int repaired(int what) {
        if (what < 0 || what > 3) {
            return -2;
        }
        if (!repairedYet) {
            return 0;
        }
        List<Pair> gone = pairs(placesAhead);
        gone.removeAll(pairs(places));
        switch (what) {
            case 0: return newPairs().size();
            case 1: return gone.size();
            case 2: return sumAparts(newPairs()) - sumAparts(gone);
            default:
                List<Pair> ahead = pairs(placesAhead);
                List<Pair> now = pairs(places);
                int same = 0;
                while (same < ahead.size() && same < now.size() && ahead.get(same).equals(now.get(same))) {
                    same++;
                }
                return same;
        }
    }

    int would(int x, int y, int what) {
        if (what < 0 || what > 1 || !canCome(x, y)) {
            return -10000000;
        }
        List<Pair> before = pairs(places);
        List<Place> more = new ArrayList<>(places);
        more.add(new Place(x, y));
        more.sort(Comparator.comparingInt(Place::x).thenComparingInt(Place::y));
        List<Pair> after = pairs(more);
        int difference = sumAparts(after) - sumAparts(before);
        after.removeAll(before);
        return what == 0 ? after.size() : difference;
    }

    int stirred(int z) {
        if (!isZoom(z)) {
            return NONE;
        }
        int count = 0;
        for (Place p : places) {
            for (Place q : places) {
                boolean bothStay = placesAhead.contains(p) && placesAhead.contains(q);
                if (bothStay && places.indexOf(p) < places.indexOf(q)
                        && areOne(places, z, p, q) != areOne(placesAhead, z, p, q)) {
                    count++;
                }
            }
        }
        return count;
    }

    int look(int what) {
        switch (what) {
            case 0: return places.size();
            case 1: return weights.stream().mapToInt(w -> w).sum();
            case 2: return size;
            case 3: return (int) state;
            case 4: return sumAparts(pairs(places));
            case 5: return pairs(places).stream().mapToInt(pair -> root(pair.apart())).sum();
            case 6: return wide(new TreeSet<>(all()));
            case 7: return all().stream().mapToInt(p -> linked(p).size()).max().orElse(0);
            case 8: return IntStream.rangeClosed(0, 10).map(this::groups).sum();
            default: return -10;
        }
    }

    // ---- what these share

    static int root(int v) {
        int root = 0;
        while ((long) (root + 1) * (root + 1) <= v) {
            root++;
        }
        return root;
    }

    private static boolean isZoom(int z) {
        return z >= 0 && z <= 10;
    }

    private static int nth(List<Integer> list, int i) {
        return i >= 0 && i < list.size() ? list.get(i) : NONE;
    }

    private boolean isPoint(int point) {
        return point >= 0 && point < places.size();
    }

    private List<Integer> all() {
        return IntStream.range(0, places.size()).boxed().toList();
    }

    private static IntStream of(TreeSet<Integer> set, IntUnaryOperator value) {
        return set.stream().mapToInt(p -> p).map(value);
    }

    private int weightOf(TreeSet<Integer> set) {
        return of(set, weights::get).sum();
    }

    private int wide(TreeSet<Integer> set) {
        return of(set, p -> of(set, q -> places.get(p).apart(places.get(q))).max().orElse(0)).max().orElse(0);
    }

    private Place centre(TreeSet<Integer> set) {
        int x = of(set, p -> places.get(p).x * weights.get(p)).sum() / weightOf(set);
        int y = of(set, p -> places.get(p).y * weights.get(p)).sum() / weightOf(set);
        return new Place(x, y);
    }

    private static boolean isIn(Place place, int x0, int x1, int y0, int y1) {
        return place.x >= x0 && place.x <= x1 && place.y >= y0 && place.y <= y1;
    }

    private TreeSet<Integer> pointsIn(int x0, int x1, int y0, int y1) {
        TreeSet<Integer> inside = new TreeSet<>(all());
        inside.removeIf(p -> !isIn(places.get(p), x0, x1, y0, y1));
        return inside;
    }

    private static List<Pair> pairsInOrder(List<Place> places) {
        List<Pair> pairs = new ArrayList<>();
        for (int p = 0; p < places.size(); p++) {
            for (int q = p + 1; q < places.size(); q++) {
                pairs.add(new Pair(places.get(p), places.get(q)));
            }
        }
        // They are in the order of numbers, which a stable sort keeps among like ones.
        pairs.sort(Comparator.comparingInt(Pair::apart));
        return pairs;
    }

    private List<Join> joins(List<Place> places) {
        return joinsKept.computeIfAbsent(List.copyOf(places), Oracle::makeJoins);
    }

    private static List<Join> makeJoins(List<Place> places) {
        List<TreeSet<Integer>> parts = new ArrayList<>();
        for (int p = 0; p < places.size(); p++) {
            parts.add(new TreeSet<>(List.of(p)));
        }
        List<Join> joins = new ArrayList<>();
        for (Pair pair : pairsInOrder(places)) {
            int first = places.indexOf(pair.first);
            int other = places.indexOf(pair.other);
            TreeSet<Integer> firstSide = parts.stream().filter(s -> s.contains(first)).findFirst().get();
            TreeSet<Integer> otherSide = parts.stream().filter(s -> s.contains(other)).findFirst().get();
            if (firstSide != otherSide) {
                TreeSet<Integer> part = new TreeSet<>(firstSide);
                part.addAll(otherSide);
                joins.add(new Join(first, other, pair.apart(), firstSide, otherSide, part));
                parts.remove(firstSide);
                parts.remove(otherSide);
                parts.add(part);
            }
        }
        return joins;
    }

    private List<Pair> pairs(List<Place> places) {
        List<Pair> pairs = new ArrayList<>();
        for (Join join : joins(places)) {
            pairs.add(new Pair(places.get(join.first), places.get(join.other)));
        }
        return pairs;
    }

    private List<Pair> newPairs() {
        List<Pair> pairs = pairs(places);
        pairs.removeAll(pairs(placesAhead));
        return pairs;
    }

    private static int sumAparts(List<Pair> pairs) {
        return pairs.stream().mapToInt(Pair::apart).sum();
    }

    private static int maker(List<Join> joins, TreeSet<Integer> part) {
        for (int j = 0; j < joins.size(); j++) {
            if (joins.get(j).part().equals(part)) {
                return j;
            }
        }
        return NONE;
    }

    private static int nodeOf(List<Join> joins, TreeSet<Integer> part) {
        return part.size() == 1 ? part.first() : 100 + maker(joins, part);
    }

    private static int above(List<Join> joins, TreeSet<Integer> part) {
        for (int j = 0; j < joins.size(); j++) {
            if (joins.get(j).firstSide.equals(part) || joins.get(j).otherSide.equals(part)) {
                return j;
            }
        }
        return NONE;
    }

    private int lasts(List<Join> joins, TreeSet<Integer> part) {
        int above = above(joins, part);
        int maker = maker(joins, part);
        if (above == NONE) {
            return 0;
        }
        return weightOf(part) * (root(joins.get(above).apart) - (maker == NONE ? 0 : root(joins.get(maker).apart)));
    }

    private TreeSet<Integer> linked(int point) {
        TreeSet<Integer> linked = new TreeSet<>();
        for (Join join : joins(places)) {
            if (join.first == point) {
                linked.add(join.other);
            }
            if (join.other == point) {
                linked.add(join.first);
            }
        }
        return linked;
    }

    /** The way from p to q that does not go back to where it came from. */
    private List<Integer> way(int p, int q, int from) {
        List<Integer> way = new ArrayList<>(List.of(p));
        if (p == q) {
            return way;
        }
        for (int next : linked(p)) {
            if (next != from) {
                List<Integer> rest = way(next, q, p);
                if (!rest.isEmpty()) {
                    way.addAll(rest);
                    return way;
                }
            }
        }
        return new ArrayList<>();
    }

    /** GROUPS: what hangs together by PAIRS that are no more APART than the square of RADIUS. */
    private List<TreeSet<Integer>> groupSets(List<Place> places, int z) {
        return groupsKept.computeIfAbsent(z, any -> new HashMap<>())
                .computeIfAbsent(List.copyOf(places), these -> makeGroupSets(these, z));
    }

    private static List<TreeSet<Integer>> makeGroupSets(List<Place> places, int z) {
        int most = (1024 >> z) * (1024 >> z);
        List<TreeSet<Integer>> sets = new ArrayList<>();
        TreeSet<Integer> seen = new TreeSet<>();
        for (int p = 0; p < places.size(); p++) {
            if (!seen.contains(p)) {
                TreeSet<Integer> set = new TreeSet<>(List.of(p));
                List<Integer> reached = new ArrayList<>(set);
                for (int i = 0; i < reached.size(); i++) {
                    for (int q = 0; q < places.size(); q++) {
                        if (places.get(reached.get(i)).apart(places.get(q)) <= most && set.add(q)) {
                            reached.add(q);
                        }
                    }
                }
                seen.addAll(set);
                sets.add(set);
            }
        }
        return sets;
    }

    private TreeSet<Integer> groupSet(int z, int group) {
        return isZoom(z) && group >= 0 && group < groups(z) ? groupSets(places, z).get(group) : null;
    }

    private boolean areOne(List<Place> places, int z, Place p, Place q) {
        List<Integer> both = List.of(places.indexOf(p), places.indexOf(q));
        return groupSets(places, z).stream().anyMatch(set -> set.containsAll(both));
    }

    private List<Integer> parts(TreeSet<Integer> set, int z) {
        List<TreeSet<Integer>> sets = groupSets(places, z);
        return IntStream.range(0, sets.size()).filter(g -> set.containsAll(sets.get(g))).boxed().toList();
    }

    private List<Integer> byWeight(List<TreeSet<Integer>> sets) {
        List<Integer> sorted = new ArrayList<>(IntStream.range(0, sets.size()).boxed().toList());
        sorted.sort(Comparator.comparingInt(g -> -weightOf(sets.get(g))));
        return sorted;
    }
}
