import java.util.ArrayList;
import java.util.Arrays;
import java.util.Collections;
import java.util.Comparator;
import java.util.List;

/**
 * What the document says ahead of its terms, of all answers together: all PAIRS in one ORDER, by which parts join until
 * all are one; scales that nest, counts that sum up; changes of what must change alone; the same in whatever order
 * POINTS came. And what its terms say is the greatest, the fewest, the least of all, by trying all. Each map's answers
 * are held against one another, on maps of some kinds.
 */
public final class Whole {
    private static final int NONE = Due.NONE;
    private static final int CALLS = 512;
    private static final Due due = new Due("Whole");
    private static long seed = 7;

    /** x, y, WEIGHT of each POINT, as they are numbered. */
    private final int[][] points;
    private final int count;
    private final String name;
    private int way = 0;
    private ScaleGroups map = null;
    private int calls = 0;

    private Whole(int kind, int[][] points) {
        this.points = points;
        count = points.length;
        name = " of kind " + kind + ", " + count + " POINTS";
    }

    public static void main(String[] args) {
        for (int count : new int[] {0, 1, 2, 3, 4, 5, 6, 9, 15, 24}) {
            for (int kind = 0; kind < 5; kind++) {
                new Whole(kind, drawn(kind, count)).run();
            }
        }
        lastCall();
        due.end();
    }

    private void run() {
        numbers();
        oneOrder();
        scalesNest();
        groupsSumUp();
        tilesSumUp();
        labels();
        centresAndDrift();
        nearest();
        squares();
        outlines();
        parts();
        for (int i = 0; i < Math.min(count, 6); i++) {
            onlyWhatMust(next(count));
        }
        inWhateverOrder();
        if (count <= 6) {
            covers();
            lasting();
            ways();
        }
    }

    // ---- maps

    private static int[][] drawn(int kind, int count) {
        List<int[]> points = new ArrayList<>();
        while (points.size() < count) {
            int[] point = {coordinate(kind), coordinate(kind), 1 + next(kind < 3 ? 3 : 99)};
            // Slantwise 50 by x and by y: unlike GROUPS of z 4 (64), but with SIZE 999 (62) they hide one another.
            point[1] = kind == 4 ? 50 * (2 * next(4) + point[0] / 50 % 2) + next(3) : point[1];
            if (points.stream().noneMatch(p -> p[0] == point[0] && p[1] == point[1])) {
                points.add(point);
            }
        }
        points.sort(Comparator.<int[]>comparingInt(p -> p[0]).thenComparingInt(p -> p[1]));
        return points.toArray(new int[0][]);
    }

    private static int coordinate(int kind) {
        switch (kind) {
            case 0:
                return next(1024);
            case 1:
                // many PAIRS that are as far APART
                return 3 * next(7);
            case 2:
                // heaps at the edges of TILES
                return next(3) * 256 + 250 + next(9);
            case 3:
                return 1 << next(10);
            default:
                return 50 * next(8) + next(3);
        }
    }

    private static int next(int bound) {
        seed = seed * 6364136223846793005L + 1442695040888963407L;
        return (int) ((seed >>> 33) % Math.max(1, bound));
    }

    /** An object with all POINTS; a new one when the calls that are promised are used up. */
    private ScaleGroups ask() {
        if (map == null || calls == CALLS) {
            map = new ScaleGroups();
            calls = come(map);
        }
        calls++;
        return map;
    }

    /** POINTS come in one of four ways; how many calls these are. */
    private int come(ScaleGroups to) {
        List<int[]> order = new ArrayList<>(Arrays.asList(points));
        if (way == 1) {
            Collections.reverse(order);
        }
        if (way == 2) {
            Collections.rotate(order, count / 3);
        }
        int made = 0;
        for (int[] point : order) {
            if (way == 3 && to.add(point[0] ^ 1, point[1], 99) != NONE) {
                to.take(to.at(point[0] ^ 1, point[1]));
                made += 2;
            }
            to.add(point[0], point[1], point[2]);
            made += way == 3 ? 2 : 1;
        }
        return made;
    }

    private void is(String call, int got, int want) {
        due.is(call + name, got, want);
    }

    private void holds(String what, boolean is) {
        due.is(what + name, is ? 1 : 0, 1);
    }

    private int apart(int p, int q) {
        int dx = points[p][0] - points[q][0];
        int dy = points[p][1] - points[q][1];
        return dx * dx + dy * dy;
    }

    private static int gap(int x, int y, int otherX, int otherY) {
        return Math.max(Math.abs(x - otherX), Math.abs(y - otherY));
    }

    // ---- all pairs in one order, by which parts join until all are one

    private void numbers() {
        due.promise(9);
        for (int p = 0; p < count; p++) {
            for (int what = 0; what < 3; what++) {
                is("point(" + p + ", " + what + ")", ask().point(p, what), points[p][what]);
            }
            is("at(x, y of " + p + ")", ask().at(points[p][0], points[p][1]), p);
        }
    }

    private List<int[]> pairsInOrder() {
        List<int[]> pairs = new ArrayList<>();
        for (int p = 0; p < count; p++) {
            for (int q = p + 1; q < count; q++) {
                pairs.add(new int[] {apart(p, q), p, q});
            }
        }
        pairs.sort(Comparator.<int[]>comparingInt(p -> p[0]).thenComparingInt(p -> p[1]).thenComparingInt(p -> p[2]));
        return pairs;
    }

    private void oneOrder() {
        due.promise(12);
        int[] part = new int[count];
        int[] node = new int[count];
        for (int p = 0; p < count; p++) {
            part[p] = p;
            node[p] = p;
        }
        int join = 0;
        for (int[] pair : pairsInOrder()) {
            if (part[pair[1]] != part[pair[2]]) {
                int[] want = {pair[0], pair[1], pair[2], 0, 0, node[pair[1]], node[pair[2]]};
                int other = part[pair[2]];
                for (int p = 0; p < count; p++) {
                    boolean isIn = part[p] == part[pair[1]] || part[p] == other;
                    part[p] = part[p] == other ? part[pair[1]] : part[p];
                    node[p] = isIn ? 100 + join : node[p];
                    want[3] += isIn ? 1 : 0;
                    want[4] += isIn ? points[p][2] : 0;
                }
                for (int what = 0; what < want.length; what++) {
                    is("join(" + join + ", " + what + ")", ask().join(join, what), want[what]);
                }
                join++;
            }
        }
        is("JOINS", join, Math.max(0, count - 1));
        is("one JOIN more", ask().join(join, 0), NONE);
        holds("the last JOIN makes all one", count < 2 || ask().join(count - 2, 3) == count);
    }

    // ---- each scale is a cut through that one order, so that groups nest, and what is counted sums up

    private void scalesNest() {
        due.promise(17);
        for (int z = 0; z <= 10; z++) {
            int radius = 1024 >> z;
            int joins = 0;
            while (joins < count - 1 && ask().join(joins, 0) <= radius * radius) {
                joins++;
            }
            is("groups(" + z + ")", ask().groups(z), count - joins);
            for (int p = 0; p < count; p++) {
                int group = ask().groupOf(z, p);
                is("group(" + z + ", that of " + p + ", 0)", ask().group(z, group, 0), ask().part(count - joins, p));
                for (int q = 0; z < 10 && q < p; q++) {
                    boolean isOneBelow = ask().groupOf(z + 1, p) == ask().groupOf(z + 1, q);
                    holds("z " + z + " nests", !isOneBelow || ask().groupOf(z, q) == group);
                }
            }
        }
    }

    private void groupsSumUp() {
        due.promise(19);
        for (int z = 0; z <= 10; z++) {
            int all = 0;
            int weight = 0;
            int below = 0;
            for (int g = 0; g < ask().groups(z); g++) {
                int members = ask().group(z, g, 1);
                all += members;
                weight += ask().group(z, g, 2);
                for (int i = 0; i < members; i++) {
                    is("groupOf a member of " + g, ask().groupOf(z, ask().member(z, g, i)), g);
                }
                int splits = ask().group(z, g, 11);
                int splitWeight = 0;
                for (int i = 0; z < 10 && i < splits; i++) {
                    splitWeight += ask().group(z + 1, ask().splits(z, g, i), 2);
                }
                holds("GROUP " + g + " of " + z + " SPLITS", z == 10 || splitWeight == ask().group(z, g, 2));
                is("splits beyond the last", ask().splits(z, g, z == 10 ? 0 : splits), NONE);
                below += splits;
            }
            is("POINTS of all GROUPS of " + z, all, ask().look(0));
            is("WEIGHT of all GROUPS of " + z, weight, ask().look(1));
            is("window(" + z + ", whole, 1)", ask().window(z, 0, 1023, 0, 1023, 1), weight);
            holds("SPLITS of all GROUPS of " + z, z == 10 || below == ask().groups(z + 1));
        }
    }

    private void tilesSumUp() {
        for (int z = 0; z <= 10; z++) {
            int radius = 1024 >> z;
            int[] sums = new int[2];
            due.promise(24);
            int tiles = ask().filled(z, NONE);
            for (int i = 0; i < tiles; i++) {
                int tx = ask().filled(z, i) % 1024;
                int ty = ask().filled(z, i) / 1024;
                int x = tx * radius;
                int y = ty * radius;
                due.promise(30);
                for (int what = 0; what < 3; what++) {
                    int window = ask().window(z, x, x + radius - 1, y, y + radius - 1, what < 2 ? what + 2 : 0);
                    is("tile(" + z + ", " + tx + ", " + ty + ", " + what + ")", ask().tile(z, tx, ty, what), window);
                }
                holds("TILES of filled() have POINTS", ask().tile(z, tx, ty, 0) > 0);
                sums[0] += ask().tile(z, tx, ty, 0);
                sums[1] += ask().tile(z, tx, ty, 1);
                quarters(z, tx, ty);
            }
            is("POINTS of all TILES of " + z, sums[0], ask().look(0));
            is("WEIGHT of all TILES of " + z, sums[1], ask().look(1));
        }
    }

    private void quarters(int z, int tx, int ty) {
        int[] sums = new int[2];
        int set = 0;
        for (int i = 0; i < 4 && z < 10; i++) {
            int x = 2 * tx + (i & 1);
            int y = 2 * ty + (i >> 1);
            sums[0] += ask().tile(z + 1, x, y, 0);
            sums[1] += ask().tile(z + 1, x, y, 1);
            set += ask().tile(z + 1, x, y, 0) > 0 ? 1 << i : 0;
        }
        is("tile(" + z + ", " + tx + ", " + ty + ", 3)", ask().tile(z, tx, ty, 3), set);
        holds("TILES in TILE " + tx + ", " + ty + " of " + z, z == 10
                || sums[0] == ask().tile(z, tx, ty, 0) && sums[1] == ask().tile(z, tx, ty, 1));
    }

    // ---- what is shown where labels may not lie too near, what is hidden being counted with what is shown

    private void labels() {
        for (int size : new int[] {64, 999, 800, 0}) {
            for (int z = 0; z <= 10; z++) {
                labelsOf(size, z);
            }
        }
    }

    private ScaleGroups sized(int size) {
        ScaleGroups it = ask();
        if (it.look(2) != size) {
            calls++;
            it.size(size);
        }
        return it;
    }

    private int gap(int z, int g, int h) {
        return gap(ask().group(z, g, 7), ask().group(z, g, 8), ask().group(z, h, 7), ask().group(z, h, 8));
    }

    private void labelsOf(int size, int z) {
        String at = " at " + z + " with SIZE " + size;
        List<Integer> shown = new ArrayList<>();
        int[] with = new int[24];
        int[] weights = new int[24];
        for (int i = 0; i < count; i++) {
            int group = ask().top(z, 0, 1023, 0, 1023, i);
            // Twice as far for each halving is as much farther than SIZE itself.
            boolean isClear = group != NONE && shown.stream().allMatch(s -> gap(z, group, s) << z > size);
            if (isClear) {
                shown.add(group);
            }
        }
        for (int g = 0; g < ask().groups(z); g++) {
            int group = g;
            int nearest = shown.stream().min(Comparator.comparingInt(s -> gap(z, group, s))).orElse(NONE);
            due.promise(36);
            is("counted(" + z + ", " + g + ")" + at, sized(size).counted(z, g), nearest);
            with[nearest] += g == nearest ? 0 : 1;
            weights[nearest] += ask().group(z, g, 2);
        }
        due.promise(34);
        is("shown" + at, sized(size).shown(z), shown.size());
        due.promise(35);
        for (int i = 0; i <= shown.size(); i++) {
            boolean isLast = i == shown.size();
            is("label(i, 0)" + at, sized(size).label(z, i, 0), isLast ? NONE : shown.get(i));
            is("label(i, 1)" + at, sized(size).label(z, i, 1), isLast ? NONE : weights[shown.get(i)]);
            is("label(i, 2)" + at, sized(size).label(z, i, 2), isLast ? NONE : with[shown.get(i)]);
        }
    }

    private void centresAndDrift() {
        for (int z = 0; z <= 10; z++) {
            due.promise(19);
            int drift = 0;
            for (int g = 0; g < ask().groups(z); g++) {
                long[] sums = new long[3];
                for (int i = 0; i < ask().group(z, g, 1); i++) {
                    int[] point = points[ask().member(z, g, i)];
                    sums[0] += point[0] * point[2];
                    sums[1] += point[1] * point[2];
                    sums[2] += point[2];
                }
                is("group(" + z + ", " + g + ", 7)", ask().group(z, g, 7), (int) (sums[0] / sums[2]));
                is("group(" + z + ", " + g + ", 8)", ask().group(z, g, 8), (int) (sums[1] / sums[2]));
                for (int i = 0; z < 10 && i < ask().group(z, g, 11); i++) {
                    int h = ask().splits(z, g, i);
                    drift += gap(ask().group(z, g, 7), ask().group(z, g, 8), ask().group(z + 1, h, 7),
                            ask().group(z + 1, h, 8));
                }
            }
            due.promise(29);
            is("drift(" + z + ")", ask().drift(z), z == 10 ? NONE : drift);
        }
    }

    // ---- what is in a window, who is near

    private void nearest() {
        due.promise(11);
        int[][] places = {{0, 0}, {512, 512}, {-9999, 9999}, {9999, 300}, {9, 9}};
        for (int[] place : places) {
            List<Integer> order = new ArrayList<>();
            for (int p = 0; p < count; p++) {
                order.add(p);
            }
            order.sort(Comparator.comparingInt(p -> (points[p][0] - place[0]) * (points[p][0] - place[0])
                    + (points[p][1] - place[1]) * (points[p][1] - place[1])));
            for (int k = 0; k < count; k++) {
                is("near(" + place[0] + ", " + place[1] + ", " + k + ")", ask().near(place[0], place[1], k),
                        order.get(k));
            }
        }
        due.promise(9);
        for (int[] pair : pairsInOrder()) {
            holds("point(first, 4) is the least", ask().point(pair[1], 4) <= pair[0]);
            holds("point(other, 4) is the least", ask().point(pair[2], 4) <= pair[0]);
        }
    }

    /** DENSEST, by all squares that may be it. */
    private void squares() {
        due.promise(25);
        int[] ys = Arrays.stream(points).mapToInt(p -> p[1]).sorted().toArray();
        for (int z = 0; z <= 10 && count > 0; z += 2) {
            int side = (1024 >> z) - 1;
            int[] best = new int[4];
            for (int[] point : points) {
                for (int y : ys) {
                    int weight = ask().window(z, point[0], point[0] + side, y, y + side, 3);
                    if (weight > best[2]) {
                        int inside = ask().window(z, point[0], point[0] + side, y, y + side, 2);
                        best = new int[] {point[0], y, weight, inside};
                    }
                }
            }
            for (int what = 0; what < 4; what++) {
                is("densest(" + z + ", " + what + ")", ask().densest(z, what), best[what]);
            }
        }
    }

    private int turn(int a, int b, int c) {
        return (points[b][0] - points[a][0]) * (points[c][1] - points[a][1])
                - (points[b][1] - points[a][1]) * (points[c][0] - points[a][0]);
    }

    /** The least convex area that has all: its corners are POINTS of the GROUP, and none is beyond an edge. */
    private void outlines() {
        for (int z = 0; z <= 10; z++) {
            for (int g = 0; g < ask().groups(z); g++) {
                due.promise(27);
                int corners = ask().outline(z, g, NONE);
                is("outline(" + z + ", " + g + ", 0)", ask().outline(z, g, 0), ask().group(z, g, 0));
                int area = 0;
                for (int i = 0; i < corners; i++) {
                    int a = ask().outline(z, g, i);
                    int b = ask().outline(z, g, (i + 1) % corners);
                    int c = ask().outline(z, g, (i + 2) % corners);
                    is("groupOf a corner", ask().groupOf(z, a), g);
                    holds("corners turn", corners < 3 || turn(a, b, c) > 0);
                    for (int m = 0; m < ask().group(z, g, 1); m++) {
                        holds("none is beyond an edge", isWithin(a, b, ask().member(z, g, m)));
                    }
                    area += turn(ask().outline(z, g, 0), a, b);
                }
                due.promise(28);
                is("area(" + z + ", " + g + ")", ask().area(z, g), area);
            }
        }
    }

    /** On the left of an edge, or on it; between its ends, if these are all there is. */
    private boolean isWithin(int a, int b, int p) {
        return turn(a, b, p) > 0 || turn(a, b, p) == 0 && p >= Math.min(a, b) && p <= Math.max(a, b);
    }

    // ---- with how many parts the map falls apart most clearly

    private void parts() {
        due.promise(31);
        for (int k = 1; k <= count; k++) {
            boolean[] isLeast = new boolean[count];
            for (int p = 0; p < count; p++) {
                int least = ask().part(k, p);
                isLeast[least] = true;
                is("part(" + k + ", least)", ask().part(k, least), least);
                holds("part(" + k + ", " + p + ") has it", least <= p);
            }
            int parts = 0;
            for (boolean is : isLeast) {
                parts += is ? 1 : 0;
            }
            is("PARTS by " + k, parts, k);
        }
        due.promise(32);
        int clearest = NONE;
        int widest = NONE;
        for (int k = 2; k <= count - 1; k++) {
            int step = root(ask().join(count - k, 0)) - root(ask().join(count - k - 1, 0));
            clearest = step > widest ? k : clearest;
            widest = Math.max(step, widest);
        }
        is("clearest()", ask().clearest(), clearest);
    }

    private static int root(int v) {
        int root = 0;
        while ((root + 1) * (root + 1) <= v) {
            root++;
        }
        return root;
    }

    // ---- points come and go, and only what must changes in the order

    /** A POINT comes last: JOINS are NEW by it that have it as an end, and no others; it goes: so they are GONE. */
    private void onlyWhatMust(int last) {
        ScaleGroups it = new ScaleGroups();
        for (int p = 0; p < count; p++) {
            if (p != last) {
                it.add(points[p][0], points[p][1], points[p][2]);
            }
        }
        due.promise(38);
        int wouldBeNew = it.would(points[last][0], points[last][1], 0);
        int wouldBeMore = it.would(points[last][0], points[last][1], 1);
        int before = it.look(4);
        due.promise(2);
        int links = it.add(points[last][0], points[last][1], points[last][2]);
        int more = it.look(4) - before;
        is("point(last, 5)", it.point(last, 5), links);
        for (int j = 0; j < count - 1; j++) {
            boolean isEnd = it.join(j, 1) == last || it.join(j, 2) == last;
            is("join(" + j + ", 9)", it.join(j, 9), isEnd ? 1 : 0);
        }
        repaired(it, links, count == 1 ? 0 : links - 1, more);
        due.promise(38);
        is("would(last, 0) ahead of it", wouldBeNew, links);
        is("would(last, 1) ahead of it", wouldBeMore, more);
        due.promise(3);
        is("take(last)", it.take(last), Math.max(0, links - 1));
        repaired(it, Math.max(0, links - 1), links, -more);
    }

    private void repaired(ScaleGroups it, int isNew, int isGone, int more) {
        due.promise(37);
        is("repaired(0)", it.repaired(0), isNew);
        is("repaired(1)", it.repaired(1), isGone);
        is("repaired(2)", it.repaired(2), more);
        int joins = Math.max(0, it.look(0) - 1);
        holds("repaired(3) of JOINS as they were", it.repaired(3) <= joins - isNew);
        holds("repaired(3) ahead of the first NEW one", it.repaired(3) == joins || isGone > 0
                || it.join(it.repaired(3), 9) == 1);
    }

    // ---- all the same in whatever order points came

    private void inWhateverOrder() {
        map = null;
        List<Integer> want = all();
        for (way = 1; way <= 3; way++) {
            map = null;
            due.promise(2);
            List<Integer> got = all();
            is("all answers, " + got.size(), want.size(), got.size());
            for (int i = 0; i < want.size(); i++) {
                is("answer " + i + " after POINTS came in way " + way, got.get(i), want.get(i));
            }
        }
        way = 0;
        map = null;
    }

    /** All that does not tell of the latest REPAIR. */
    private List<Integer> all() {
        List<Integer> answers = new ArrayList<>();
        for (int p = 0; p < count; p++) {
            for (int what = 0; what < 9; what++) {
                answers.add(ask().point(p, what));
                answers.add(ask().join(p, what));
            }
            answers.add(ask().meets(p, count / 2));
            answers.add(ask().path(p, count / 2, NONE));
            answers.add(ask().path(p, count / 2, 1));
            answers.add(ask().zoom(p, count / 2));
            answers.add(ask().best(10 + p));
        }
        for (int z = 0; z <= 10; z++) {
            for (int g = 0; g < ask().groups(z); g++) {
                for (int what = 0; what < 13; what++) {
                    answers.add(ask().group(z, g, what));
                }
                answers.add(ask().cover(z, g));
                answers.add(ask().counted(z, g));
                answers.add(ask().label(z, g, 0));
                answers.add(ask().top(z, 0, 1023, 0, 1023, g));
            }
            answers.add(ask().densest(z, 2));
            answers.add(ask().would(1000, 1, 1));
        }
        for (int what = 0; what < 9; what++) {
            answers.add(ask().look(what));
            answers.add(ask().longest(what));
            answers.add(ask().best(what));
        }
        answers.add(ask().clearest());
        return answers;
    }

    // ---- by trying all

    /** COVER: of all sets of TILES that have just the POINTS of a GROUP the fewest. */
    private void covers() {
        due.promise(26);
        for (int z = 0; z <= 10; z++) {
            for (int g = 0; g < ask().groups(z); g++) {
                int set = 0;
                for (int i = 0; i < ask().group(z, g, 1); i++) {
                    set |= 1 << ask().member(z, g, i);
                }
                is("cover(" + z + ", " + g + ")", ask().cover(z, g), fewest(tilesWithin(set), set));
            }
        }
    }

    private List<Integer> tilesWithin(int set) {
        List<Integer> tiles = new ArrayList<>();
        for (int z = 0; z <= 10; z++) {
            for (int p = 0; p < count; p++) {
                int inside = 0;
                for (int q = 0; q < count; q++) {
                    boolean isIn = points[p][0] >> 10 - z == points[q][0] >> 10 - z
                            && points[p][1] >> 10 - z == points[q][1] >> 10 - z;
                    inside |= isIn ? 1 << q : 0;
                }
                if ((inside & ~set) == 0) {
                    tiles.add(inside);
                }
            }
        }
        return tiles;
    }

    private static int fewest(List<Integer> tiles, int set) {
        int[] fewest = new int[set + 1];
        for (int covered = 1; covered <= set; covered++) {
            fewest[covered] = 99;
            for (int tile : tiles) {
                fewest[covered] = Math.min(fewest[covered], (tile & covered) == 0 ? 99 : fewest[covered & ~tile] + 1);
            }
        }
        return fewest[set];
    }

    /** BEST: of all sets of NODES, none of which is within another one, and in one of which each POINT is. */
    private void lasting() {
        due.promise(33);
        int nodes = count + Math.max(0, count - 1);
        int[] sets = new int[nodes];
        int[] lasts = new int[nodes];
        for (int n = 0; n < nodes; n++) {
            sets[n] = n < count ? 1 << n : sets[side(n, 5)] | sets[side(n, 6)];
            lasts[n] = n < count ? 0 : ask().join(n - count, 8);
            for (int j = 0; j < count - 1 && n < count; j++) {
                boolean isSide = ask().join(j, 5) == n || ask().join(j, 6) == n;
                lasts[n] += isSide ? points[n][2] * root(ask().join(j, 0)) : 0;
            }
        }
        int best = 0;
        for (int chosen = 0; chosen < 1 << nodes; chosen++) {
            best = Math.max(best, together(chosen, sets, lasts));
        }
        is("best(0)", ask().best(0), best);
        int chosen = 0;
        for (int i = 0; i < ask().best(1); i++) {
            int node = ask().best(10 + i);
            chosen |= 1 << (node < 100 ? node : count + node - 100);
        }
        is("LASTS of best(10 on) together", together(chosen, sets, lasts), best);
        for (int n = count; n < nodes; n++) {
            int within = 0;
            int sum = 0;
            for (int m = 0; m < n; m++) {
                boolean isWithin = (chosen >> m & 1) == 1 && (sets[m] & ~sets[n]) == 0;
                within += isWithin ? 1 : 0;
                sum += isWithin ? lasts[m] : 0;
            }
            holds("a JOIN rather than its SIDES' BEST", within == 0 || lasts[n] < sum);
        }
    }

    private int side(int node, int what) {
        int side = ask().join(node - count, what);
        return side < 100 ? side : count + side - 100;
    }

    /** LASTS together, or none if the NODES do not have each POINT once. */
    private int together(int chosen, int[] sets, int[] lasts) {
        int covered = 0;
        int sum = 0;
        for (int n = 0; n < sets.length; n++) {
            if ((chosen >> n & 1) == 1) {
                if ((covered & sets[n]) != 0) {
                    return NONE;
                }
                covered |= sets[n];
                sum += lasts[n];
            }
        }
        return covered == (1 << count) - 1 ? sum : NONE;
    }

    /** Ways go along links of the TREE, and the longest is the longest of all. */
    private void ways() {
        int[] longest = {NONE, NONE, NONE};
        for (int p = 0; p < count; p++) {
            for (int q = p + 1; q < count; q++) {
                due.promise(14);
                int length = 0;
                int links = ask().path(p, q, NONE);
                for (int i = 0; i < links; i++) {
                    int a = ask().path(p, q, i);
                    int b = ask().path(p, q, i + 1);
                    holds("a link of the TREE", isLink(a, b));
                    is("path(q, p)", ask().path(q, p, links - i), a);
                    length += root(apart(a, b));
                }
                is("the end of path(p, q)", ask().path(p, q, links), q);
                longest = length > longest[0] ? new int[] {length, p, q} : longest;
                due.promise(13);
                holds("meets(p, q) makes them one", ask().part(count - ask().meets(p, q) - 1, p)
                        == ask().part(count - ask().meets(p, q) - 1, q));
                holds("meets(p, q) is the first", ask().part(count - ask().meets(p, q), p)
                        != ask().part(count - ask().meets(p, q), q));
            }
        }
        due.promise(15);
        for (int what = 0; what < 3; what++) {
            is("longest(" + what + ")", ask().longest(what), count < 2 ? NONE : longest[what]);
        }
    }

    private boolean isLink(int a, int b) {
        boolean isLink = false;
        for (int j = 0; j < count - 1; j++) {
            isLink |= ask().join(j, 1) == Math.min(a, b) && ask().join(j, 2) == Math.max(a, b);
        }
        return isLink;
    }

    // ---- an object is used for at most 512 calls after it has been made

    /** The 512th call answers as the first does, whatever came and went. */
    private static void lastCall() {
        due.promise(1);
        ScaleGroups map = new ScaleGroups();
        int calls = 0;
        for (int i = 0; i < 63; i++) {
            map.scatter(24);
            map.add(i, i, 5);
            map.take(i % 24);
            map.weigh(3, 9);
            map.would(i, 1000, 0);
            map.best(0);
            map.shown(5);
            map.clear();
            calls += 8;
        }
        due.is("add(500, 500, 7)", map.add(500, 500, 7), 0);
        due.is("add(10, 0, 3)", map.add(10, 0, 3), 1);
        due.is("add(0, 0, 5)", map.add(0, 0, 5), 1);
        due.is("add(0, 30, 2)", map.add(0, 30, 2), 2);
        due.is("best(0)", map.best(0), 6560 + 4802);
        due.is("clearest()", map.clearest(), 2);
        due.is("group(5, 0, 12)", map.group(5, 0, 12), 1000);
        due.is("the 512th call, repaired(2)", map.repaired(2), -18300);
        due.is("calls", calls + 8, CALLS);
    }
}
