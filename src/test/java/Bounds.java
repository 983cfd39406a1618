/**
 * Too small and too large, promise by promise: of every argument the last value that can be and the first that can't,
 * on both ends, and the least and the greatest int. Then the bounds that the terms themselves name: RADIUS, SIZE, the
 * edges of TILES and squares, ROOT.
 */
public final class Bounds {
    private static final int NONE = Due.NONE;
    private static final int LEAST = Due.LEAST;
    private static final int MOST = Due.MOST;
    private static final int NO_WOULD = NONE - 9999999;
    private static final Due due = new Due("Bounds");

    public static void main(String[] args) {
        changes();
        scatterAndState();
        points();
        near();
        joins();
        ways();
        groups();
        membersAndSplits();
        windows();
        windowSides();
        filledAndDensest();
        coverOutlineArea();
        drift();
        tiles();
        parts();
        labels();
        repairs();
        look();
        due.allTested(2, 40);
        radius();
        radiusOfFarthest();
        sizes();
        sizeOfNone();
        tileEdges();
        squareEdges();
        centres();
        roots();
        due.end();
    }

    private static void changes() {
        due.promise(2);
        due.ends("add(x, 7, 1)", x -> Maps.corner().add(x, 7, 1), 0, 2, 1023, 1);
        due.ends("add(7, y, 1)", y -> Maps.corner().add(7, y, 1), 0, 2, 1023, 1);
        due.ends("add(7, 7, weight)", w -> Maps.corner().add(7, 7, w), 1, 3, 99, 3);
        due.ends("add(x, 7, 1), then at", x -> addedAt(x, 7, 1), 0, 1, 1023, 4);
        due.ends("add(7, y, 1), then at", y -> addedAt(7, y, 1), 0, 2, 1023, 2);
        due.ends("add(7, 7, weight), then look(1)", w -> lookAfterAdd(w, 1), 1, 18, 99, 116, 17);
        due.promise(3);
        due.ends("take", p -> Maps.corner().take(p), 0, 1, 3, 0);
        due.ends("take, then look(1)", p -> lookAfterTake(p, 1), 0, 12, 3, 10, 17);
        due.promise(4);
        due.ends("weigh(point, 6)", p -> Maps.corner().weigh(p, 6), 0, 5, 3, 7);
        due.ends("weigh(1, weight)", w -> Maps.corner().weigh(1, w), 1, 2, 99, 2);
        due.ends("weigh(1, weight), then look(1)", w -> lookAfterWeigh(w), 1, 16, 99, 114, 17);
        due.promise(7);
        due.is("clear() of four", Maps.corner().clear(), 4);
        due.is("clear() of 24", Maps.tower().clear(), 24);
        due.promise(8);
        due.ends("size", v -> Maps.corner().size(v), 0, 64, 999, 64);
        due.ends("size, then look(2)", v -> lookAfterSize(v), 0, 0, 999, 999, 64);
    }

    private static int addedAt(int x, int y, int weight) {
        ScaleGroups map = Maps.corner();
        map.add(x, y, weight);
        return map.at(x, y);
    }

    private static int lookAfterAdd(int weight, int what) {
        ScaleGroups map = Maps.corner();
        map.add(7, 7, weight);
        return map.look(what);
    }

    private static int lookAfterTake(int point, int what) {
        ScaleGroups map = Maps.corner();
        map.take(point);
        return map.look(what);
    }

    private static int lookAfterWeigh(int weight) {
        ScaleGroups map = Maps.corner();
        map.weigh(1, weight);
        return map.look(1);
    }

    private static int lookAfterSize(int size) {
        ScaleGroups map = Maps.corner();
        map.size(size);
        return map.look(2);
    }

    private static void scatterAndState() {
        due.promise(5);
        due.ends("scatter", n -> new ScaleGroups().scatter(n), 1, 1, 24, 24);
        due.ends("scatter, then look(0)", n -> {
            ScaleGroups map = new ScaleGroups();
            map.scatter(n);
            return map.look(0);
        }, 1, 1, 24, 24, 0);
        due.promise(6);
        ScaleGroups map = new ScaleGroups();
        int told = 0;
        for (int v : new int[] {-1, LEAST, LEAST + 1, MOST, MOST - 1, 1, 0}) {
            due.is("state(" + v + ")", map.state(v), told);
            due.is("look(3)", map.look(3), v);
            told = v;
        }
    }

    private static void points() {
        ScaleGroups map = Maps.corner();
        due.promise(9);
        due.ends("point(point, 0)", p -> map.point(p, 0), 0, 0, 3, 500);
        due.ends("point(0, what)", what -> map.point(0, what), 0, 0, 5, 2);
        due.ends("point(3, what)", what -> map.point(3, what), 0, 500, 5, 1);
        due.ends("point(point, 0) of 24", p -> Maps.slope().point(p, 0), 0, 0, 23, 552);
        due.promise(10);
        ScaleGroups four = Maps.fourCorners();
        due.ends("at(0, y)", y -> four.at(0, y), 0, 0, 1023, 1);
        due.ends("at(1023, y)", y -> four.at(1023, y), 0, 2, 1023, 3);
        due.ends("at(x, 0)", x -> four.at(x, 0), 0, 0, 1023, 2);
        due.ends("at(x, 1023)", x -> four.at(x, 1023), 0, 1, 1023, 3);
    }

    private static void near() {
        ScaleGroups map = Maps.corner();
        due.promise(11);
        due.ends("near(x, 0, 0)", x -> map.near(x, 0, 0), -9999, 0, 9999, 3);
        due.ends("near(0, y, 0)", y -> map.near(0, y, 0), -9999, 0, 9999, 3);
        due.ends("near(x, 9999, 0)", x -> map.near(x, 9999, 0), -9999, 1, 9999, 3);
        due.ends("near(9999, y, 0)", y -> map.near(9999, y, 0), -9999, 2, 9999, 3);
        due.ends("near(0, 0, k)", k -> map.near(0, 0, k), 0, 0, 3, 3);
        due.ends("near(500, 500, k)", k -> map.near(500, 500, k), 0, 3, 3, 0);
        due.ends("near(0, 1023, k) of 24", k -> Maps.tower().near(0, 1023, k), 0, 23, 23, 0);
    }

    private static void joins() {
        ScaleGroups map = Maps.corner();
        due.promise(12);
        due.ends("join(join, 0)", j -> map.join(j, 0), 0, 100, 2, 470900);
        due.ends("join(0, what)", what -> map.join(0, what), 0, 100, 9, 0);
        due.ends("join(2, what)", what -> map.join(2, what), 0, 470900, 9, 1);
        due.ends("join(join, 2) of 24", j -> Maps.tower().join(j, 2), 0, 1, 22, 23);
        due.promise(13);
        due.ends("meets(p, 1)", p -> map.meets(p, 1), 0, 1, 3, 2);
        due.ends("meets(1, q)", q -> map.meets(1, q), 0, 1, 3, 2);
        due.ends("meets(p, 1) of 24", p -> Maps.tower().meets(p, 1), 0, 0, 23, 22);
        due.ends("meets(1, q) of 24", q -> Maps.tower().meets(1, q), 0, 0, 23, 22);
    }

    private static void ways() {
        ScaleGroups map = Maps.corner();
        due.promise(14);
        due.ends("path(p, 1, NONE)", p -> map.path(p, 1, NONE), 0, 1, 3, 1);
        due.ends("path(2, q, NONE)", q -> map.path(2, q, NONE), 0, 1, 3, 3);
        due.ends("path(p, 1, 0)", p -> map.path(p, 1, 0), 0, 0, 3, 3);
        due.ends("path(1, q, 1)", q -> map.path(1, q, 1), 0, 0, 3, 3);
        due.ends("path(2, 3, i)", i -> map.path(2, 3, i), NONE, 3, 3, 3);
        due.ends("path(3, 2, i)", i -> map.path(3, 2, i), NONE, 3, 3, 2);
        due.ends("path(1, 1, i)", i -> map.path(1, 1, i), NONE, 0, 0, 1);
        due.ends("path(23, 0, i) of 24", i -> Maps.tower().path(23, 0, i), NONE, 23, 23, 0);
        due.promise(15);
        due.ends("longest", what -> map.longest(what), 0, 726, 2, 3);
        due.promise(16);
        due.ends("zoom(p, 1)", p -> map.zoom(p, 1), 0, 5, 3, 0);
        due.ends("zoom(1, q)", q -> map.zoom(1, q), 0, 5, 3, 0);
        due.ends("zoom(p, 1) of 24", p -> Maps.tower().zoom(p, 1), 0, 4, 23, 4);
    }

    private static void groups() {
        ScaleGroups map = Maps.corner();
        due.promise(17);
        due.ends("groups", z -> map.groups(z), 0, 1, 10, 4);
        due.promise(18);
        due.ends("groupOf(z, 3)", z -> map.groupOf(z, 3), 0, 0, 10, 3);
        due.ends("groupOf(10, point)", p -> map.groupOf(10, p), 0, 0, 3, 3);
        due.ends("groupOf(10, point) of 24", p -> Maps.tower().groupOf(10, p), 0, 0, 23, 23);
        due.promise(19);
        due.ends("group(z, 0, 1)", z -> map.group(z, 0, 1), 0, 4, 10, 1);
        due.ends("group(0, group, 2)", g -> map.group(0, g, 2), 0, 17, 0, 17);
        due.ends("group(5, group, 2)", g -> map.group(5, g, 2), 0, 10, 1, 7);
        due.ends("group(10, group, 2)", g -> map.group(10, g, 2), 0, 5, 3, 7);
        due.ends("group(5, 0, what)", what -> map.group(5, 0, what), 0, 0, 12, 1000);
        due.ends("group(10, 3, what)", what -> map.group(10, 3, what), 0, 3, 12, 0);
        due.ends("group(5, group, 8) of 24", g -> Maps.tower().group(5, g, 8), 0, 5, 23, 1017);
    }

    private static void membersAndSplits() {
        ScaleGroups map = Maps.corner();
        due.promise(20);
        due.ends("member(z, 0, 0)", z -> map.member(z, 0, 0), 0, 0, 10, 0);
        due.ends("member(10, group, 0)", g -> map.member(10, g, 0), 0, 0, 3, 3);
        due.ends("member(0, group, 3)", g -> map.member(0, g, 3), 0, 3, 0, 3);
        due.ends("member(0, 0, i)", i -> map.member(0, 0, i), 0, 0, 3, 3);
        due.ends("member(6, 0, i)", i -> map.member(6, 0, i), 0, 0, 1, 2);
        due.ends("member(10, 3, i)", i -> map.member(10, 3, i), 0, 3, 0, 3);
        due.ends("member(4, 0, i) of 24", i -> Maps.tower().member(4, 0, i), 0, 0, 23, 23);
        due.promise(21);
        due.ends("splits(z, 0, 0)", z -> map.splits(z, 0, 0), 0, 0, 9, 0);
        due.ends("splits(z, 0, 0) of two", z -> Maps.line(0, 2).splits(z, 0, 0), 0, 0, 9, 0);
        due.ends("splits(0, group, 1)", g -> map.splits(0, g, 1), 0, 1, 0, 1);
        due.ends("splits(9, group, 0)", g -> map.splits(9, g, 0), 0, 0, 3, 3);
        due.ends("splits(0, 0, i)", i -> map.splits(0, 0, i), 0, 0, 1, 1);
        due.ends("splits(5, 1, i)", i -> map.splits(5, 1, i), 0, 2, 0, 2);
        due.ends("splits(9, 0, i) of two", i -> Maps.line(0, 2).splits(9, 0, i), 0, 0, 1, 1);
        due.ends("splits(4, 0, i) of 24", i -> Maps.tower().splits(4, 0, i), 0, 0, 23, 23);
    }

    private static void windows() {
        ScaleGroups map = Maps.corner();
        due.promise(22);
        due.ends("window(z, whole, 0)", z -> map.window(z, 0, 1023, 0, 1023, 0), 0, 1, 10, 4);
        due.ends("window(z, whole, 2)", z -> map.window(z, 0, 1023, 0, 1023, 2), 0, 4, 10, 4);
        due.ends("window(1, whole, what)", what -> map.window(1, 0, 1023, 0, 1023, what), 0, 2, 3, 17);
        due.ends("window(1, none, what)", what -> map.window(1, 9, 8, 0, 1023, what), 0, 0, 3, 0);
        due.promise(23);
        due.ends("top(z, whole, 0)", z -> map.top(z, 0, 1023, 0, 1023, 0), 0, 0, 10, 3);
        due.ends("top(10, whole, i)", i -> map.top(10, 0, 1023, 0, 1023, i), 0, 3, 3, 1);
        due.ends("top(0, whole, i)", i -> map.top(0, 0, 1023, 0, 1023, i), 0, 0, 0, 0);
        due.ends("top(5, whole, i) of 24", i -> Maps.tower().top(5, 0, 1023, 0, 1023, i), 0, 0, 23, 23);
    }

    /** Any int is a side of a WINDOW, which has what lies on its sides. */
    private static void windowSides() {
        int[] lower = {LEAST, 4, 0, 4, 1, 2, 10, 2, 11, 1, 500, 1, 501, 0, MOST, 0};
        int[] upperX = {LEAST, 0, -1, 0, 0, 2, 9, 2, 10, 3, 499, 3, 500, 4, MOST, 4};
        int[] lowerY = {LEAST, 4, 0, 4, 1, 2, 30, 2, 31, 1, 500, 1, 501, 0, MOST, 0};
        int[] upperY = {LEAST, 0, -1, 0, 0, 2, 29, 2, 30, 3, 499, 3, 500, 4, MOST, 4};
        windowSide("x0", lower, v -> new int[] {v, 1023, 0, 1023});
        windowSide("x1", upperX, v -> new int[] {0, v, 0, 1023});
        windowSide("y0", lowerY, v -> new int[] {0, 1023, v, 1023});
        windowSide("y1", upperY, v -> new int[] {0, 1023, 0, v});
        windowSide("x1, any other", upperX, v -> new int[] {LEAST, v, LEAST, MOST});
        windowSide("y0, any other", lowerY, v -> new int[] {LEAST, MOST, v, MOST});
    }

    private interface Sides {
        int[] at(int v);
    }

    /** At z 10 each POINT is a GROUP with its CENTRE there: so there are as many in a WINDOW, and as many of top. */
    private static void windowSide(String side, int[] counts, Sides sides) {
        ScaleGroups map = Maps.corner();
        for (int i = 0; i < counts.length; i += 2) {
            int[] s = sides.at(counts[i]);
            int count = counts[i + 1];
            String call = side + " " + counts[i];
            due.promise(22);
            due.is("window(10, .., 0), " + call, map.window(10, s[0], s[1], s[2], s[3], 0), count);
            due.is("window(10, .., 2), " + call, map.window(10, s[0], s[1], s[2], s[3], 2), count);
            due.promise(23);
            boolean isLast = count > 0 && map.top(10, s[0], s[1], s[2], s[3], count - 1) != NONE;
            due.is("top(10, .., the last), " + call, isLast ? 1 : 0, count > 0 ? 1 : 0);
            due.is("top(10, .., one more), " + call, map.top(10, s[0], s[1], s[2], s[3], count), NONE);
        }
    }

    private static void filledAndDensest() {
        ScaleGroups map = Maps.corner();
        due.promise(24);
        due.ends("filled(z, NONE)", z -> map.filled(z, NONE), 0, 1, 10, 4);
        due.ends("filled(z, 0) of the last place", z -> Maps.of(1023, 1023, 1).filled(z, 0), 0, 0, 10, 1048575);
        due.ends("filled(10, i)", i -> map.filled(10, i), NONE, 4, 3, 512500);
        due.ends("filled(0, i)", i -> map.filled(0, i), NONE, 1, 0, 0);
        due.ends("filled(5, i) of 24", i -> Maps.tower().filled(5, i), NONE, 24, 23, 31 * 1024 + 16);
        due.promise(25);
        due.ends("densest(z, 2)", z -> map.densest(z, 2), 0, 17, 10, 7);
        due.ends("densest(5, what)", what -> map.densest(5, what), 0, 0, 3, 3);
        due.ends("densest(10, what)", what -> map.densest(10, what), 0, 500, 3, 1);
    }

    private static void coverOutlineArea() {
        ScaleGroups map = Maps.corner();
        due.promise(26);
        due.ends("cover(z, 0)", z -> map.cover(z, 0), 0, 1, 10, 1);
        due.ends("cover(0, group)", g -> map.cover(0, g), 0, 1, 0, 1);
        due.ends("cover(10, group)", g -> map.cover(10, g), 0, 1, 3, 1);
        due.ends("cover(5, group) of 24", g -> Maps.tower().cover(5, g), 0, 1, 23, 1);
        due.promise(27);
        due.ends("outline(z, 0, NONE)", z -> map.outline(z, 0, NONE), 0, 4, 10, 1);
        due.ends("outline(10, group, 0)", g -> map.outline(10, g, 0), 0, 0, 3, 3);
        due.ends("outline(0, 0, i)", i -> map.outline(0, 0, i), NONE, 4, 3, 1);
        due.ends("outline(6, 0, i) of two", i -> map.outline(6, 0, i), NONE, 2, 1, 2);
        due.ends("outline(10, 3, i) of one", i -> map.outline(10, 3, i), NONE, 1, 0, 3);
        due.promise(28);
        due.ends("area(z, 0)", z -> map.area(z, 0), 0, 20000, 10, 0);
        due.ends("area(1, group)", g -> map.area(1, g), 0, 300, 1, 0);
        due.ends("area(10, group)", g -> map.area(10, g), 0, 0, 3, 0);
    }

    private static void drift() {
        due.promise(29);
        due.ends("drift", z -> Maps.corner().drift(z), 0, 497, 9, 0);
        // (0, 0) and (2, 0) are one GROUP of z 9, two of z 10.
        due.ends("drift of two", z -> Maps.line(0, 2).drift(z), 0, 0, 9, 2);
    }

    /** Each of the four TILES at the corners has one POINT, but that of z 0 has all. */
    private static void tiles() {
        ScaleGroups map = Maps.corner();
        due.promise(30);
        due.ends("tile(z, 0, 0, 0)", z -> map.tile(z, 0, 0, 0), 0, 4, 10, 1);
        due.ends("tile(1, 0, 0, what)", what -> map.tile(1, 0, 0, what), 0, 4, 3, 9);
        due.ends("tile(10, 0, 0, what)", what -> map.tile(10, 0, 0, what), 0, 1, 3, 0);
        due.ends("tile(1, 1, 1, what) without POINTS", what -> map.tile(1, 1, 1, what), 0, 0, 3, 0);
        for (int z = 0; z <= 10; z++) {
            tilesAtCorners(z);
        }
    }

    private static void tilesAtCorners(int z) {
        ScaleGroups four = Maps.fourCorners();
        int last = (1 << z) - 1;
        int[] w = z == 0 ? new int[] {10, 10, 10, 10} : new int[] {1, 2, 3, 4};
        String tile = "tile(" + z + ", ";
        due.ends(tile + "tx, 0, 1)", tx -> four.tile(z, tx, 0, 1), 0, w[0], last, w[1]);
        due.ends(tile + "tx, last, 1)", tx -> four.tile(z, tx, last, 1), 0, w[2], last, w[3]);
        due.ends(tile + "0, ty, 1)", ty -> four.tile(z, 0, ty, 1), 0, w[0], last, w[2]);
        due.ends(tile + "last, ty, 1)", ty -> four.tile(z, last, ty, 1), 0, w[1], last, w[3]);
    }

    private static void parts() {
        ScaleGroups map = Maps.corner();
        due.promise(31);
        due.ends("part(k, 3)", k -> map.part(k, 3), 1, 0, 4, 3);
        due.ends("part(4, point)", p -> map.part(4, p), 0, 0, 3, 3);
        due.ends("part(1, point)", p -> map.part(1, p), 0, 0, 3, 0);
        due.ends("part(k, 23) of 24", k -> Maps.tower().part(k, 23), 1, 0, 24, 23);
        due.ends("part(24, point) of 24", p -> Maps.tower().part(24, p), 0, 0, 23, 23);
        due.promise(32);
        due.is("clearest() of two", Maps.line(0, 9).clearest(), NONE);
        due.is("clearest() of three", Maps.line(0, 1, 9).clearest(), 2);
        // The greatest k is POINTS less 1: JOINS 0 and 1, of ROOTS 1 and 500, then 501 and 502.
        due.is("clearest() at the greatest k", Maps.line(0, 1, 501, 1002).clearest(), 3);
        due.promise(33);
        due.ends("best(what)", what -> map.best(what), 0, 11362, 1, 2);
        due.ends("best(10 and i)", what -> map.best(what), 10, 101, 11, 3);
        due.ends("best(10 and i) of 24", what -> Maps.tower().best(what), 10, 0, 33, 23);
        due.row("best between", what -> map.best(what), 2, NONE, NONE, NONE, NONE, NONE, NONE, NONE, NONE);
    }

    private static void labels() {
        ScaleGroups map = Maps.corner();
        due.promise(34);
        due.ends("shown", z -> map.shown(z), 0, 1, 10, 4);
        due.promise(35);
        due.ends("label(z, 0, 0)", z -> map.label(z, 0, 0), 0, 0, 10, 3);
        due.ends("label(10, i, 0)", i -> map.label(10, i, 0), 0, 3, 3, 1);
        due.ends("label(0, i, 1)", i -> map.label(0, i, 1), 0, 17, 0, 17);
        due.ends("label(5, 1, what)", what -> map.label(5, 1, what), 0, 1, 2, 0);
        due.ends("label(5, i, 0) of 24", i -> Maps.tower().label(5, i, 0), 0, 0, 23, 23);
        // One of two GROUPS is SHOWN: there are two to be COUNTED, one that is SHOWN.
        ScaleGroups hiding = Maps.corner();
        hiding.size(999);
        due.ends("label(1, i, 2)", i -> hiding.label(1, i, 2), 0, 1, 0, 1);
        due.promise(36);
        due.ends("counted(z, 0)", z -> map.counted(z, 0), 0, 0, 10, 0);
        due.ends("counted(1, group)", g -> hiding.counted(1, g), 0, 0, 1, 0);
        due.ends("counted(10, group)", g -> map.counted(10, g), 0, 0, 3, 3);
        due.ends("counted(5, group) of 24", g -> Maps.tower().counted(5, g), 0, 0, 23, 23);
    }

    private static void repairs() {
        due.promise(37);
        due.ends("repaired", what -> Maps.corner().repaired(what), 0, 2, 3, 1, NONE - 1);
        due.ends("repaired ahead of any", what -> new ScaleGroups().repaired(what), 0, 0, 3, 0, NONE - 1);
        due.promise(38);
        due.ends("would(x, 7, 0)", x -> Maps.corner().would(x, 7, 0), 0, 2, 1023, 1, NO_WOULD);
        due.ends("would(7, y, 0)", y -> Maps.corner().would(7, y, 0), 0, 2, 1023, 1, NO_WOULD);
        // JOINS would be of 58, 98, 578 and 470900, where they are of 100, 900 and 470900.
        due.ends("would(7, 7, what)", what -> Maps.corner().would(7, 7, what), 0, 3, 1, -266, NO_WOULD);
        due.ends("would(0, 0, what) of none", what -> new ScaleGroups().would(0, 0, what), 0, 0, 1, 0, NO_WOULD);
        due.promise(39);
        // By the one between, which is 1 from both, they come into one GROUP of z 10: they were in one of all others.
        ScaleGroups near = Maps.line(0, 2, 1);
        due.ends("stirred, the nearest", z -> near.stirred(z), 0, 0, 10, 1);
        // By (500, 500) both ends of the map come into one GROUP of z 0.
        ScaleGroups far = Maps.of(0, 0, 1, 1023, 1023, 1, 500, 500, 1);
        due.ends("stirred, the farthest", z -> far.stirred(z), 0, 1, 10, 0);
        due.ends("stirred ahead of any", z -> new ScaleGroups().stirred(z), 0, 0, 10, 0);
    }

    private static void look() {
        due.promise(40);
        due.ends("look", what -> Maps.corner().look(what), 0, 4, 8, 30, NONE - 9);
        due.ends("look of none", what -> new ScaleGroups().look(what), 0, 0, 8, 0, NONE - 9);
    }

    /** Two that are RADIUS from one another are one GROUP, if just more they are two. */
    private static void radius() {
        for (int z = 1; z <= 10; z++) {
            int far = 1024 >> z;
            ScaleGroups just = Maps.of(0, 9, 1, far, 9, 1);
            ScaleGroups more = Maps.of(0, 9, 1, far, 10, 1);
            due.promise(17);
            due.is("groups(" + z + ") of two just a RADIUS from one another", just.groups(z), 1);
            due.is("groups(" + z + ") of two just more", more.groups(z), 2);
            due.promise(16);
            due.is("zoom of two just RADIUS " + far + " from one another", just.zoom(0, 1), z);
            due.is("zoom of two just more than RADIUS " + far, more.zoom(1, 0), z - 1);
            due.promise(39);
            due.is("stirred(" + z + ") by one just a RADIUS from the first", stirredBy(far, z), 1);
            due.is("stirred(" + z + ") by one just more from the first", stirredBy(far + 1, z), 0);
        }
    }

    /** One comes that is so far from the first and 1 from the other, on the way between these. */
    private static int stirredBy(int far, int z) {
        return Maps.line(0, far + 1, far).stirred(z);
    }

    /** No two places are just 1024 from one another: APART 1048554 is within the square of it, 1048645 is not. */
    private static void radiusOfFarthest() {
        ScaleGroups less = Maps.of(0, 0, 1, 1023, 45, 1);
        ScaleGroups more = Maps.of(0, 0, 1, 1023, 46, 1);
        due.promise(17);
        due.is("groups(0) of two just less than RADIUS", less.groups(0), 1);
        due.is("groups(0) of two just more than RADIUS", more.groups(0), 2);
        due.promise(16);
        due.is("zoom of two just less than RADIUS", less.zoom(0, 1), 0);
        due.is("zoom of two just more than RADIUS", more.zoom(0, 1), NONE);
    }

    /** SHOWN are those farther than SIZE by z halvings, by x or by y: not those just as far. */
    private static void sizes() {
        due.promise(34);
        for (int z = 0; z <= 8; z++) {
            // By x and by y so far that they are two GROUPS, though SIZE at its greatest hides one of them.
            int far = 999 >> z;
            sizesOfTwo(z, Maps.of(0, 0, 1, far, far, 1), far);
            sizesOfTwo(z, Maps.of(0, far, 1, far, 0, 1), far);
        }
    }

    private static void sizesOfTwo(int z, ScaleGroups map, int far) {
        due.is("groups(" + z + ") of two " + far + " from one another", map.groups(z), 2);
        map.size((far << z) - 1);
        due.is("shown(" + z + ") with SIZE just below " + far, map.shown(z), 2);
        map.size(far << z);
        due.is("shown(" + z + ") with SIZE just " + far, map.shown(z), 1);
        map.size(999);
        due.is("shown(" + z + ") with the greatest SIZE", map.shown(z), 1);
        map.size(0);
        due.is("shown(" + z + ") with SIZE 0", map.shown(z), 2);
    }

    /** With SIZE 0 only CENTRES at one place hide one another: here that of a ring around a POINT, and that POINT's. */
    private static void sizeOfNone() {
        due.promise(34);
        ScaleGroups map = Maps.of(10, 10, 99);
        for (int i = 8; i < 12; i++) {
            map.add(i, 8, 1);
            map.add(12, i, 1);
            map.add(20 - i, 12, 1);
            map.add(8, 20 - i, 1);
        }
        map.size(0);
        due.is("groups(10) of a ring and what is in it", map.groups(10), 2);
        due.is("group(10, 0, 7)", map.group(10, 0, 7), 10);
        due.is("group(10, 0, 8)", map.group(10, 0, 8), 10);
        due.is("shown(10) with SIZE 0", map.shown(10), 1);
        due.is("label(10, 0, 0)", map.label(10, 0, 0), 1);
        due.is("label(10, 0, 1)", map.label(10, 0, 1), 99 + 16);
        due.is("counted(10, 0)", map.counted(10, 0), 1);
        // A CENTRE rounded down to 9 is another place: all are SHOWN.
        map.take(map.at(12, 12));
        due.is("group(10, 0, 7) of a broken ring", map.group(10, 0, 7), 9);
        due.is("shown(10) of a broken ring", map.shown(10), 2);
    }

    /** The last place of a TILE and the first of the next one, by x and by y. */
    private static void tileEdges() {
        for (int z = 1; z <= 10; z++) {
            int radius = 1024 >> z;
            ScaleGroups across = Maps.of(radius - 1, 0, 5, radius, 0, 7);
            ScaleGroups up = Maps.of(0, radius - 1, 5, 0, radius, 7);
            due.promise(30);
            due.is("tile(" + z + ", 0, 0, 1), across", across.tile(z, 0, 0, 1), 5);
            due.is("tile(" + z + ", 1, 0, 1), across", across.tile(z, 1, 0, 1), 7);
            due.is("tile(" + z + ", 0, 0, 1), up", up.tile(z, 0, 0, 1), 5);
            due.is("tile(" + z + ", 0, 1, 1), up", up.tile(z, 0, 1, 1), 7);
            // Seen from the TILE of z less 1 that has both.
            due.is("tile(" + (z - 1) + ", 0, 0, 3), across", across.tile(z - 1, 0, 0, 3), 1 | 2);
            due.is("tile(" + (z - 1) + ", 0, 0, 3), up", up.tile(z - 1, 0, 0, 3), 1 | 4);
            due.promise(24);
            due.is("filled(" + z + ", 1), across", across.filled(z, 1), 1);
            due.is("filled(" + z + ", 1), up", up.filled(z, 1), 1024);
            due.is("filled(" + (z - 1) + ", NONE), up", up.filled(z - 1, NONE), 1);
        }
    }

    /** Two POINTS RADIUS less 1 from one another are in one square, if RADIUS they are not. */
    private static void squareEdges() {
        due.promise(25);
        for (int z = 0; z <= 10; z++) {
            int radius = 1024 >> z;
            if (radius > 1) {
                due.is("densest(" + z + ", 3) within, by x", Maps.of(0, 3, 1, radius - 1, 3, 1).densest(z, 3), 2);
                due.is("densest(" + z + ", 3) within, by y", Maps.of(3, 0, 1, 3, radius - 1, 1).densest(z, 3), 2);
            }
            if (z > 0) {
                due.is("densest(" + z + ", 3) without, by x", Maps.of(0, 3, 1, radius, 3, 1).densest(z, 3), 1);
                due.is("densest(" + z + ", 3) without, by y", Maps.of(3, 0, 1, 3, radius, 1).densest(z, 3), 1);
            }
        }
        // A square may reach beyond the map.
        due.is("densest(1, 3) at the last place", Maps.of(1023, 1023, 1).densest(1, 3), 1);
        due.is("densest(0, 0) at the last place", Maps.of(1023, 1023, 1).densest(0, 0), 1023);
    }

    /** CENTRE is rounded down, x and y each for itself: 1 by 100 and 99 by 100 are 0, 100 by 100 is 1. */
    private static void centres() {
        due.promise(19);
        ScaleGroups map = Maps.of(0, 7, 99, 1, 7, 1);
        due.row("group(9, 0, what), just above 0", what -> map.group(9, 0, what), 7, 0, 7);
        map.weigh(0, 1);
        map.weigh(1, 99);
        due.row("group(9, 0, what), just below 1", what -> map.group(9, 0, what), 7, 0, 7);
        ScaleGroups up = Maps.of(1023, 1022, 1, 1023, 1023, 99);
        due.row("group(9, 0, what), just below 1023", what -> up.group(9, 0, what), 7, 1023, 1022);
        ScaleGroups both = Maps.of(0, 2, 1, 2, 0, 1);
        due.row("group(8, 0, what), just 1", what -> both.group(8, 0, what), 7, 1, 1);
        both.weigh(0, 2);
        // x 2 by 3, y 4 by 3
        due.row("group(8, 0, what), by thirds", what -> both.group(8, 0, what), 7, 0, 1);
        due.promise(22);
        due.is("window(8, 0, 0, 1, 1, 0)", both.window(8, 0, 0, 1, 1, 0), 1);
        due.is("window(8, 1, 9, 1, 1, 0)", both.window(8, 1, 9, 1, 1, 0), 0);
        due.is("window(8, 0, 0, 2, 9, 0)", both.window(8, 0, 0, 2, 9, 0), 0);
    }

    /** ROOT of all squares, and of what is just below and above one, up to the greatest APART there is. */
    private static void roots() {
        for (int n = 1; n <= 1023; n++) {
            rootOf(n, 0, n);
        }
        // 2, 5; 8 is 9 less 1, 10 is 9 and 1; 17 is 16 and 1; 65 is 64 and 1, 80 is 81 less 1
        rootOf(1, 1, 1);
        rootOf(1, 2, 2);
        rootOf(2, 2, 2);
        rootOf(1, 3, 3);
        rootOf(1, 4, 4);
        rootOf(4, 7, 8);
        rootOf(4, 8, 8);
        // The square of 1024 is 1048576: 1048554 is less, 1048645 more.
        rootOf(1023, 45, 1023);
        rootOf(1023, 46, 1024);
        // The square of 1446 is 2090916: 2088970 is less, 2091013 more; 2093058 is the greatest APART of all.
        rootOf(1023, 1021, 1445);
        rootOf(1023, 1022, 1446);
        rootOf(1023, 1023, 1446);
    }

    private static void rootOf(int dx, int dy, int root) {
        ScaleGroups map = Maps.of(0, 0, 1, dx, dy, 1);
        String of = ", ROOT of " + (dx * dx + dy * dy);
        due.promise(15);
        due.is("longest(0)" + of, map.longest(0), root);
        due.promise(40);
        due.is("look(5)" + of, map.look(5), root);
    }
}
