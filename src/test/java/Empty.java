import java.util.function.Supplier;

/**
 * What each call answers without POINTS (in a new object, and where all have gone), with one POINT, for a WINDOW that
 * has nothing in it, for parts of z 10, and ahead of any REPAIR.
 */
public final class Empty {
    private static final int NONE = Due.NONE;
    private static final int LEAST = Due.LEAST;
    private static final int MOST = Due.MOST;
    private static final int NO_WOULD = NONE - 9999999;
    private static final Due due = new Due("Empty");

    private final String when;
    private final Supplier<ScaleGroups> maker;

    private Empty(String when, Supplier<ScaleGroups> maker) {
        this.when = ", " + when;
        this.maker = maker;
    }

    public static void main(String[] args) {
        new Empty("new", ScaleGroups::new).withoutPoints();
        new Empty("cleared", Empty::cleared).withoutPoints();
        new Empty("all taken", Empty::allTaken).withoutPoints();
        new Empty("full once", Empty::fullOnce).withoutPoints();
        due.allTested(1, 40);
        new Empty("the first", () -> Maps.of(300, 700, 9)).withOnePoint();
        new Empty("what was left", Empty::oneLeft).withOnePoint();
        new Empty("after all went", Empty::oneAfterClear).withOnePoint();
        aheadOfAnyRepair();
        changesOfNothing();
        fewerThanTwoOrThree();
        emptyWindow();
        deepestZoom();
        due.end();
    }

    private static ScaleGroups cleared() {
        ScaleGroups map = Maps.corner();
        map.clear();
        return map;
    }

    private static ScaleGroups allTaken() {
        ScaleGroups map = Maps.corner();
        for (int i = 0; i < 4; i++) {
            map.take(0);
        }
        return map;
    }

    private static ScaleGroups fullOnce() {
        ScaleGroups map = new ScaleGroups();
        map.scatter(24);
        map.clear();
        map.state(0);
        return map;
    }

    private static ScaleGroups oneLeft() {
        ScaleGroups map = Maps.of(0, 0, 5, 300, 700, 9, 1023, 1023, 99, 300, 701, 8);
        map.take(3);
        map.take(2);
        map.take(0);
        return map;
    }

    private static ScaleGroups oneAfterClear() {
        ScaleGroups map = new ScaleGroups();
        map.scatter(24);
        map.clear();
        map.state(0);
        map.add(300, 700, 9);
        return map;
    }

    // ---- without POINTS

    private void withoutPoints() {
        changesWithoutPoints();
        pointsWithoutPoints();
        joinsWithoutPoints();
        for (int z = 0; z <= 10; z++) {
            scaleWithoutPoints(z);
            placesWithoutPoints(z);
            labelsWithoutPoints(z);
        }
        partsWithoutPoints();
        wouldAndLookWithoutPoints();
    }

    private void changesWithoutPoints() {
        due.promise(1);
        due.is("look(0)" + when, maker.get().look(0), 0);
        due.promise(2);
        due.is("add(5, 6, 7)" + when, maker.get().add(5, 6, 7), 0);
        due.promise(3);
        due.never("take" + when, p -> maker.get().take(p), NONE);
        due.promise(4);
        due.never("weigh(point, 1)" + when, p -> maker.get().weigh(p, 1), NONE);
        due.promise(5);
        due.is("scatter(1)" + when, maker.get().scatter(1), 1);
        due.is("scatter(24)" + when, maker.get().scatter(24), 24);
        due.promise(6);
        due.is("state(5)" + when, maker.get().state(5), 0);
        due.promise(7);
        due.is("clear()" + when, maker.get().clear(), 0);
        due.promise(8);
        due.is("size(5)" + when, maker.get().size(5), 64);
    }

    private void pointsWithoutPoints() {
        ScaleGroups map = maker.get();
        due.promise(9);
        due.row("point(0, what)" + when, what -> map.point(0, what), -1, NONE, NONE, NONE, NONE, NONE, NONE, NONE,
                NONE);
        due.never("point(point, 0)" + when, p -> map.point(p, 0), NONE);
        due.promise(10);
        due.never("at(0, y)" + when, y -> map.at(0, y), NONE);
        due.never("at(x, 0)" + when, x -> map.at(x, 0), NONE);
        due.is("at(500, 500), where one was" + when, map.at(500, 500), NONE);
        due.promise(11);
        due.never("near(0, 0, k)" + when, k -> map.near(0, 0, k), NONE);
        due.never("near(x, 0, 0)" + when, x -> map.near(x, 0, 0), NONE);
    }

    private void joinsWithoutPoints() {
        ScaleGroups map = maker.get();
        due.promise(12);
        due.never("join(join, 0)" + when, j -> map.join(j, 0), NONE);
        due.never("join(0, what)" + when, what -> map.join(0, what), NONE);
        due.promise(13);
        due.never("meets(0, q)" + when, q -> map.meets(0, q), NONE);
        due.promise(14);
        due.never("path(0, q, NONE)" + when, q -> map.path(0, q, NONE), NONE);
        due.never("path(0, 0, i)" + when, i -> map.path(0, 0, i), NONE);
        due.promise(15);
        due.never("longest" + when, what -> map.longest(what), NONE);
        due.promise(16);
        due.never("zoom(0, q)" + when, q -> map.zoom(0, q), NONE);
    }

    private void scaleWithoutPoints(int z) {
        ScaleGroups map = maker.get();
        String at = z + ", ";
        due.promise(17);
        due.is("groups(" + z + ")" + when, map.groups(z), 0);
        due.promise(18);
        due.never("groupOf(" + at + "point)" + when, p -> map.groupOf(z, p), NONE);
        due.promise(19);
        due.never("group(" + at + "group, 0)" + when, g -> map.group(z, g, 0), NONE);
        due.never("group(" + at + "0, what)" + when, what -> map.group(z, 0, what), NONE);
        due.promise(20);
        due.never("member(" + at + "0, i)" + when, i -> map.member(z, 0, i), NONE);
        due.promise(21);
        due.never("splits(" + at + "0, i)" + when, i -> map.splits(z, 0, i), NONE);
        due.promise(26);
        due.never("cover(" + at + "group)" + when, g -> map.cover(z, g), NONE);
        due.promise(27);
        due.never("outline(" + at + "0, i)" + when, i -> map.outline(z, 0, i), NONE);
        due.promise(28);
        due.never("area(" + at + "group)" + when, g -> map.area(z, g), NONE);
    }

    private void placesWithoutPoints(int z) {
        ScaleGroups map = maker.get();
        String at = z + ", ";
        due.promise(22);
        due.row("window(" + at + "whole, what)" + when, what -> map.window(z, 0, 1023, 0, 1023, what), -1, NONE, 0, 0,
                0, 0, NONE);
        due.row("window(" + at + "all ints, what)" + when, what -> map.window(z, LEAST, MOST, LEAST, MOST, what), 0,
                0, 0, 0, 0);
        due.promise(23);
        due.never("top(" + at + "whole, i)" + when, i -> map.top(z, 0, 1023, 0, 1023, i), NONE);
        due.promise(24);
        due.row("filled(" + at + "i)" + when, i -> map.filled(z, i), -2, NONE, 0, NONE, NONE);
        due.promise(25);
        due.never("densest(" + at + "what)" + when, what -> map.densest(z, what), NONE);
        due.promise(29);
        due.is("drift(" + z + ")" + when, map.drift(z), z == 10 ? NONE : 0);
        due.promise(30);
        due.row("tile(" + at + "0, 0, what)" + when, what -> map.tile(z, 0, 0, what), -1, NONE, 0, 0, 0, 0, NONE);
        int last = (1 << z) - 1;
        due.row("tile(" + at + "the last, what)" + when, what -> map.tile(z, last, last, what), 0, 0, 0, 0, 0);
    }

    private void labelsWithoutPoints(int z) {
        ScaleGroups map = maker.get();
        due.promise(34);
        due.is("shown(" + z + ")" + when, map.shown(z), 0);
        due.promise(35);
        due.never("label(" + z + ", i, 0)" + when, i -> map.label(z, i, 0), NONE);
        due.promise(36);
        due.never("counted(" + z + ", group)" + when, g -> map.counted(z, g), NONE);
    }

    private void partsWithoutPoints() {
        ScaleGroups map = maker.get();
        due.promise(31);
        due.never("part(k, 0)" + when, k -> map.part(k, 0), NONE);
        due.never("part(1, point)" + when, p -> map.part(1, p), NONE);
        due.promise(32);
        due.is("clearest()" + when, map.clearest(), NONE);
        due.promise(33);
        due.row("best" + when, what -> map.best(what), -1, NONE, 0, 0, NONE, NONE, NONE, NONE, NONE, NONE, NONE, NONE,
                NONE, NONE);
        due.is("best(MOST)" + when, map.best(MOST), NONE);
    }

    private void wouldAndLookWithoutPoints() {
        due.promise(37);
        // What a REPAIR did after which there are no POINTS: nothing is NEW, nothing is as it was.
        due.is("repaired(0)" + when, maker.get().repaired(0), 0);
        due.is("repaired(3)" + when, maker.get().repaired(3), 0);
        ScaleGroups map = maker.get();
        due.promise(38);
        due.row("would(0, 0, what)" + when, what -> map.would(0, 0, what), -1, NO_WOULD, 0, 0, NO_WOULD);
        due.row("would(1023, 1023, what)" + when, what -> map.would(1023, 1023, what), 0, 0, 0);
        due.is("would(1024, 0, 0)" + when, map.would(1024, 0, 0), NO_WOULD);
        due.promise(39);
        for (int z = 0; z <= 10; z++) {
            due.is("stirred(" + z + ")" + when, map.stirred(z), 0);
        }
        due.promise(40);
        due.row("look" + when, what -> map.look(what), -1, NONE - 9, 0, 0, 64, 0, 0, 0, 0, 0, 0, NONE - 9);
    }

    // ---- with one POINT: (300, 700) of WEIGHT 9

    private void withOnePoint() {
        changesWithOnePoint();
        pointWithOnePoint();
        joinsWithOnePoint();
        for (int z = 0; z <= 10; z++) {
            groupWithOnePoint(z);
            placesWithOnePoint(z);
            tileWithOnePoint(z);
            labelWithOnePoint(z);
        }
        partsWithOnePoint();
        wouldAndLookWithOnePoint();
    }

    private void changesWithOnePoint() {
        due.promise(2);
        due.is("add(300, 703, 1)" + when, maker.get().add(300, 703, 1), 1);
        due.is("add(300, 700, 1)" + when, maker.get().add(300, 700, 1), NONE);
        due.promise(3);
        due.is("take(0)" + when, maker.get().take(0), 0);
        due.is("take(1)" + when, maker.get().take(1), NONE);
        due.promise(4);
        due.is("weigh(0, 1)" + when, maker.get().weigh(0, 1), 9);
        due.is("weigh(1, 1)" + when, maker.get().weigh(1, 1), NONE);
        due.promise(5);
        due.is("scatter(24)" + when, maker.get().scatter(24), 23);
        due.promise(7);
        due.is("clear()" + when, maker.get().clear(), 1);
    }

    private void pointWithOnePoint() {
        ScaleGroups map = maker.get();
        due.promise(9);
        due.row("point(0, what)" + when, what -> map.point(0, what), -1, NONE, 300, 700, 9, NONE, NONE, 0, NONE);
        due.row("point(1, what)" + when, what -> map.point(1, what), 0, NONE, NONE, NONE, NONE, NONE, NONE);
        due.promise(10);
        due.is("at(300, 700)" + when, map.at(300, 700), 0);
        due.is("at(700, 300)" + when, map.at(700, 300), NONE);
        due.promise(11);
        due.row("near(0, 0, k)" + when, k -> map.near(0, 0, k), -1, NONE, 0, NONE);
        due.is("near(300, 700, 0)" + when, map.near(300, 700, 0), 0);
    }

    private void joinsWithOnePoint() {
        ScaleGroups map = maker.get();
        due.promise(12);
        due.never("join(join, 0)" + when, j -> map.join(j, 0), NONE);
        due.never("join(0, what)" + when, what -> map.join(0, what), NONE);
        due.promise(13);
        due.never("meets(0, q)" + when, q -> map.meets(0, q), NONE);
        due.promise(14);
        due.row("path(0, 0, i)" + when, i -> map.path(0, 0, i), -2, NONE, 0, 0, NONE);
        due.is("path(0, 1, NONE)" + when, map.path(0, 1, NONE), NONE);
        due.is("path(1, 0, 0)" + when, map.path(1, 0, 0), NONE);
        due.promise(15);
        due.never("longest" + when, what -> map.longest(what), NONE);
        due.promise(16);
        due.never("zoom(0, q)" + when, q -> map.zoom(0, q), NONE);
    }

    private void groupWithOnePoint(int z) {
        ScaleGroups map = maker.get();
        String at = z + ", ";
        due.promise(17);
        due.is("groups(" + z + ")" + when, map.groups(z), 1);
        due.promise(18);
        due.row("groupOf(" + at + "point)" + when, p -> map.groupOf(z, p), -1, NONE, 0, NONE);
        due.promise(19);
        due.row("group(" + at + "0, what)" + when, what -> map.group(z, 0, what), -1, NONE, 0, 1, 9, 300, 300, 700, 700,
                300, 700, 0, NONE, 1, 0, NONE);
        due.is("group(" + at + "1, 0)" + when, map.group(z, 1, 0), NONE);
        due.promise(20);
        due.row("member(" + at + "0, i)" + when, i -> map.member(z, 0, i), -1, NONE, 0, NONE);
        due.promise(21);
        due.row("splits(" + at + "0, i)" + when, i -> map.splits(z, 0, i), -1, NONE, z == 10 ? NONE : 0, NONE);
        due.promise(26);
        due.row("cover(" + at + "group)" + when, g -> map.cover(z, g), -1, NONE, 1, NONE);
        due.promise(27);
        due.row("outline(" + at + "0, i)" + when, i -> map.outline(z, 0, i), -2, NONE, 1, 0, NONE);
        due.promise(28);
        due.row("area(" + at + "group)" + when, g -> map.area(z, g), -1, NONE, 0, NONE);
    }

    private void placesWithOnePoint(int z) {
        ScaleGroups map = maker.get();
        String at = z + ", ";
        due.promise(22);
        due.row("window(" + at + "whole, what)" + when, what -> map.window(z, 0, 1023, 0, 1023, what), 0, 1, 9, 1, 9);
        due.row("window(" + at + "just it, what)" + when, what -> map.window(z, 300, 300, 700, 700, what), 0, 1, 9, 1,
                9);
        due.row("window(" + at + "left of it, what)" + when, what -> map.window(z, 0, 299, 0, 1023, what), 0, 0, 0, 0,
                0);
        due.promise(23);
        due.row("top(" + at + "whole, i)" + when, i -> map.top(z, 0, 1023, 0, 1023, i), -1, NONE, 0, NONE);
        due.promise(25);
        due.row("densest(" + at + "what)" + when, what -> map.densest(z, what), -1, NONE, 300, 700, 9, 1, NONE);
        due.promise(29);
        due.is("drift(" + z + ")" + when, map.drift(z), z == 10 ? NONE : 0);
    }

    private void tileWithOnePoint(int z) {
        ScaleGroups map = maker.get();
        // 300 and 700 in twos: 0100101100, 1010111100. Its TILE by their first z signs, of that a quarter by the next.
        int tx = 300 / (1024 >> z);
        int ty = 700 / (1024 >> z);
        String x = "00100101100";
        String y = "01010111100";
        int quarter = z == 10 ? 0 : 1 << (x.charAt(z + 1) - '0') + 2 * (y.charAt(z + 1) - '0');
        String at = "tile(" + z + ", " + tx + ", " + ty + ", what)";
        due.promise(30);
        due.row(at + when, what -> map.tile(z, tx, ty, what), -1, NONE, 1, 9, 1, quarter, NONE);
        if (z > 0) {
            due.row(at + " beside it" + when, what -> map.tile(z, tx ^ 1, ty, what), -1, NONE, 0, 0, 0, 0, NONE);
            due.row(at + " above it" + when, what -> map.tile(z, tx, ty ^ 1, what), -1, NONE, 0, 0, 0, 0, NONE);
        }
        due.promise(24);
        due.row("filled(" + z + ", i)" + when, i -> map.filled(z, i), -2, NONE, 1, 1024 * ty + tx, NONE);
    }

    private void labelWithOnePoint(int z) {
        ScaleGroups map = maker.get();
        due.promise(34);
        due.is("shown(" + z + ")" + when, map.shown(z), 1);
        due.promise(35);
        due.row("label(" + z + ", 0, what)" + when, what -> map.label(z, 0, what), -1, NONE, 0, 9, 0, NONE);
        due.is("label(" + z + ", 1, 0)" + when, map.label(z, 1, 0), NONE);
        due.promise(36);
        due.row("counted(" + z + ", group)" + when, g -> map.counted(z, g), -1, NONE, 0, NONE);
    }

    private void partsWithOnePoint() {
        ScaleGroups map = maker.get();
        due.promise(31);
        due.row("part(k, 0)" + when, k -> map.part(k, 0), 0, NONE, 0, NONE);
        due.is("part(1, 1)" + when, map.part(1, 1), NONE);
        due.promise(32);
        due.is("clearest()" + when, map.clearest(), NONE);
        due.promise(33);
        due.row("best" + when, what -> map.best(what), -1, NONE, 0, 1, NONE, NONE, NONE, NONE, NONE, NONE, NONE, NONE,
                0, NONE);
    }

    private void wouldAndLookWithOnePoint() {
        ScaleGroups map = maker.get();
        due.promise(37);
        due.is("repaired(0)" + when, map.repaired(0), 0);
        due.is("repaired(3)" + when, map.repaired(3), 0);
        due.promise(38);
        due.row("would(300, 700, what)" + when, what -> map.would(300, 700, what), 0, NO_WOULD, NO_WOULD);
        due.row("would(300, 703, what)" + when, what -> map.would(300, 703, what), -1, NO_WOULD, 1, 9, NO_WOULD);
        due.promise(39);
        for (int z = 0; z <= 10; z++) {
            due.is("stirred(" + z + ")" + when, map.stirred(z), 0);
        }
        due.promise(40);
        due.row("look" + when, what -> map.look(what), -1, NONE - 9, 1, 9, 64, 0, 0, 0, 0, 0, 11, NONE - 9);
    }

    // ---- what else may be empty

    /** No POINT came, went or was to come: whatever else was called, there was no REPAIR. */
    private static void aheadOfAnyRepair() {
        ScaleGroups map = new ScaleGroups();
        map.add(-1, 0, 1);
        map.add(0, 0, 0);
        map.take(0);
        map.weigh(0, 1);
        map.scatter(0);
        map.scatter(25);
        map.state(7);
        map.size(8);
        map.would(5, 5, 0);
        due.promise(37);
        due.row("repaired ahead of any", what -> map.repaired(what), -1, NONE - 1, 0, 0, 0, 0, NONE - 1);
        due.promise(39);
        for (int z = 0; z <= 10; z++) {
            due.is("stirred(" + z + ") ahead of any", map.stirred(z), 0);
        }
        due.is("stirred(-1) ahead of any", map.stirred(-1), NONE);
        due.is("stirred(11) ahead of any", map.stirred(11), NONE);
    }

    /** clear() of no POINTS, and scatter() of which none came, are REPAIRS that did nothing: not that of ahead. */
    private static void changesOfNothing() {
        ScaleGroups cleared = Maps.corner();
        cleared.clear();
        due.promise(37);
        due.row("repaired after clear()", what -> cleared.repaired(what), 0, 0, 3, -471900, 0);
        cleared.clear();
        due.row("repaired after clear() of none", what -> cleared.repaired(what), 0, 0, 0, 0, 0);
        ScaleGroups full = Maps.tower();
        // The one that came last was that at the top.
        due.row("repaired after the 24th", what -> full.repaired(what), 0, 1, 0, 1936, 22);
        due.promise(12);
        due.is("join(22, 9) after the 24th", full.join(22, 9), 1);
        due.promise(5);
        due.is("scatter(24) of which none came", full.scatter(24), 0);
        due.promise(37);
        due.row("repaired after scatter() of none", what -> full.repaired(what), 0, 0, 0, 0, 23);
        due.promise(12);
        due.is("join(22, 9) after scatter() of none", full.join(22, 9), 0);
        ScaleGroups stirred = Maps.line(0, 200, 100);
        due.promise(39);
        due.is("stirred(3) by the one between", stirred.stirred(3), 1);
        stirred.clear();
        due.is("stirred(3) by clear()", stirred.stirred(3), 0);
    }

    /** longest() wants two POINTS, clearest() three; others answer for two what they answer for many. */
    private static void fewerThanTwoOrThree() {
        ScaleGroups two = Maps.of(3, 0, 5, 0, 4, 7);
        due.promise(15);
        due.row("longest of two", what -> two.longest(what), -1, NONE, 5, 0, 1, NONE);
        due.promise(32);
        due.is("clearest() of two", two.clearest(), NONE);
        due.promise(12);
        due.row("join(0, what) of two", what -> two.join(0, what), -1, NONE, 25, 0, 1, 2, 12, 0, 1, NONE, 0, 1, NONE);
        due.promise(33);
        due.row("best of two", what -> two.best(what), 0, 60, 2);
        due.row("best(10 and i) of two", what -> two.best(what), 9, NONE, 0, 1, NONE);
        two.add(9, 4, 1);
        due.promise(32);
        // ROOTS 5 and 7
        due.is("clearest() of three", two.clearest(), 2);
        two.take(2);
        due.is("clearest() of two again", two.clearest(), NONE);
        two.take(1);
        due.promise(15);
        due.is("longest(0) of one again", two.longest(0), NONE);
    }

    private static void emptyWindow() {
        int[][] sides = {{1, 0, 0, 1023}, {0, 1023, 1, 0}, {501, 500, 0, 1023}, {0, 1023, 501, 500}, {1023, 0, 1023, 0},
                {MOST, LEAST, 0, 1023}, {0, 1023, MOST, LEAST}, {MOST, LEAST, MOST, LEAST}, {1, 2, 1, 29}, {-9, -1, 0,
                        0}, {1024, 2000, 0, 1023}, {LEAST, LEAST, LEAST, LEAST}, {MOST, MOST, MOST, MOST}};
        for (int[] s : sides) {
            ScaleGroups map = Maps.corner();
            for (int z = 0; z <= 10; z++) {
                int zoom = z;
                String window = z + ", " + s[0] + ", " + s[1] + ", " + s[2] + ", " + s[3];
                due.promise(22);
                due.row("window(" + window + ", what)", what -> map.window(zoom, s[0], s[1], s[2], s[3], what), -1,
                        NONE, 0, 0, 0, 0, NONE);
                due.promise(23);
                due.row("top(" + window + ", i)", i -> map.top(zoom, s[0], s[1], s[2], s[3], i), -1, NONE, NONE, NONE);
            }
            due.promise(22);
            due.is("window(-1, ..)", map.window(-1, s[0], s[1], s[2], s[3], 0), NONE);
            due.is("window(11, ..)", map.window(11, s[0], s[1], s[2], s[3], 0), NONE);
            due.promise(23);
            due.is("top(11, ..)", map.top(11, s[0], s[1], s[2], s[3], 0), NONE);
        }
        // One column, one row and one place are no empty WINDOWS.
        ScaleGroups map = Maps.corner();
        due.promise(22);
        due.is("window(10, 0, 0, 0, 1023, 2)", map.window(10, 0, 0, 0, 1023, 2), 2);
        due.is("window(10, 0, 1023, 0, 0, 2)", map.window(10, 0, 1023, 0, 0, 2), 2);
        due.is("window(10, 0, 0, 0, 0, 2)", map.window(10, 0, 0, 0, 0, 2), 1);
    }

    /** GROUPS and TILES of z 10 fall into no parts, though there are POINTS in them. */
    private static void deepestZoom() {
        // (0, 0), (1, 0), (2, 0) are one GROUP of z 10, too; (500, 500) is another one.
        ScaleGroups map = Maps.of(0, 0, 1, 1, 0, 1, 2, 0, 1, 500, 500, 1);
        due.promise(17);
        due.is("groups(10)", map.groups(10), 2);
        due.promise(19);
        due.is("group(10, 0, 1)", map.group(10, 0, 1), 3);
        due.is("group(10, 0, 11)", map.group(10, 0, 11), 1);
        due.is("group(10, 1, 11)", map.group(10, 1, 11), 1);
        due.is("group(9, 0, 11)", map.group(9, 0, 11), 1);
        due.promise(21);
        due.never("splits(10, 0, i)", i -> map.splits(10, 0, i), NONE);
        due.never("splits(10, 1, i)", i -> map.splits(10, 1, i), NONE);
        due.never("splits(10, group, 0)", g -> map.splits(10, g, 0), NONE);
        due.row("splits(9, 0, i)", i -> map.splits(9, 0, i), 0, 0, NONE);
        due.promise(29);
        due.is("drift(10)", map.drift(10), NONE);
        due.promise(30);
        due.row("tile(10, 1, 0, what)", what -> map.tile(10, 1, 0, what), -1, NONE, 1, 1, 1, 0, NONE);
        due.row("tile(10, 500, 500, what)", what -> map.tile(10, 500, 500, what), -1, NONE, 1, 1, 1, 0, NONE);
        due.row("tile(10, 3, 0, what)", what -> map.tile(10, 3, 0, what), -1, NONE, 0, 0, 0, 0, NONE);
        due.row("tile(9, 0, 0, what)", what -> map.tile(9, 0, 0, what), 0, 2, 2, 1, 3);
    }
}
