import java.util.function.IntUnaryOperator;

/** 24 POINTS: the 25th by each call that brings one; all on one line; and such as are as far APART in many pairs. */
public final class Full {
    private static final int NONE = Due.NONE;
    private static final int NO_WOULD = NONE - 9999999;
    private static final Due due = new Due("Full");

    public static void main(String[] args) {
        noMoreByAdd();
        noMoreByScatter();
        roomForOneByScatter();
        takenPlacesByScatter();
        noMoreByWould();
        roomAgain();
        changesOfFull();
        towerPoints();
        towerJoins();
        towerScales();
        towerPlaces();
        towerParts();
        slopeOutline();
        slopeLabels();
        gridPoints();
        gridJoins();
        gridWays();
        gridScales();
        gridWithout();
        circle();
        farthest();
        due.end();
    }

    private static void noMoreByAdd() {
        due.promise(2);
        ScaleGroups map = Maps.slope();
        due.is("look(0)", map.look(0), 24);
        due.is("add of the 25th", map.add(1000, 1000, 1), NONE);
        due.is("add of the 25th at the first place", map.add(0, 1, 99), NONE);
        due.is("add at a taken place", map.add(0, 0, 1), NONE);
        due.is("look(0)", map.look(0), 24);
        due.is("look(1)", map.look(1), 24);
        due.is("at(1000, 1000)", map.at(1000, 1000), NONE);
        due.is("point(23, 0)", map.point(23, 0), 552);
        ScaleGroups less = Maps.slope();
        less.take(23);
        due.is("add of the 24th", less.add(1000, 1000, 1), 1);
        due.is("add of the 25th", less.add(1001, 1000, 1), NONE);
        due.is("look(0)", less.look(0), 24);
    }

    private static void noMoreByScatter() {
        due.promise(5);
        ScaleGroups map = Maps.slope();
        due.is("scatter(1) of the 25th", map.scatter(1), 0);
        due.is("look(3), drawn in any case", map.look(3), -775096599);
        due.is("scatter(24)", map.scatter(24), 0);
        due.is("look(0)", map.look(0), 24);
        due.is("at(755, 41), the place drawn first", map.at(755, 41), NONE);
        int state = 0;
        for (int i = 0; i < 75; i++) {
            state = 1664525 * state + 1013904223;
        }
        due.is("look(3) after 75 DRAWS", map.look(3), state);
        due.is("scatter(25)", map.scatter(25), NONE);
        due.is("scatter(0)", map.scatter(0), NONE);
        due.is("look(3)", map.look(3), state);
    }

    /** From STATE 0 the first place drawn is (755, 41), with WEIGHT 78. */
    private static void roomForOneByScatter() {
        due.promise(5);
        ScaleGroups map = Maps.slope();
        map.take(0);
        due.is("scatter(24) with room for one", map.scatter(24), 1);
        due.is("look(0)", map.look(0), 24);
        due.is("at(755, 41)", map.at(755, 41), 23);
        due.is("point(23, 2)", map.point(23, 2), 78);
        due.promise(37);
        due.is("repaired(0)", map.repaired(0), 1);
        ScaleGroups none = new ScaleGroups();
        due.promise(5);
        due.is("scatter(23)", none.scatter(23), 23);
        due.is("scatter(2)", none.scatter(2), 1);
        due.is("scatter(1)", none.scatter(1), 0);
        due.is("look(0)", none.look(0), 24);
    }

    /** A place drawn that is taken: the two that follow come where they would have come, with their WEIGHTS. */
    private static void takenPlacesByScatter() {
        due.promise(5);
        ScaleGroups free = new ScaleGroups();
        due.is("scatter(3)", free.scatter(3), 3);
        ScaleGroups taken = Maps.of(755, 41, 1);
        due.is("scatter(3) with a taken place", taken.scatter(3), 2);
        due.is("look(3)", taken.look(3), free.look(3));
        for (int i = 0; i < 3; i++) {
            boolean isFirst = free.point(i, 0) == 755 && free.point(i, 1) == 41;
            due.is("point(" + i + ", 0)", taken.point(i, 0), free.point(i, 0));
            due.is("point(" + i + ", 1)", taken.point(i, 1), free.point(i, 1));
            due.is("point(" + i + ", 2)", taken.point(i, 2), isFirst ? 1 : free.point(i, 2));
        }
    }

    private static void noMoreByWould() {
        due.promise(38);
        ScaleGroups map = Maps.slope();
        for (int what = 0; what <= 2; what++) {
            due.is("would(1000, 1000, " + what + ") of the 25th", map.would(1000, 1000, what), NO_WOULD);
            due.is("would(0, 0, " + what + ") at a taken place", map.would(0, 0, what), NO_WOULD);
        }
        map.take(23);
        // It would be linked to (528, 528).
        due.is("would(552, 552, 0) of the 24th", map.would(552, 552, 0), 1);
        due.is("would(552, 552, 1) of the 24th", map.would(552, 552, 1), 2 * 24 * 24);
        due.is("look(0)", map.look(0), 23);
        due.is("add(552, 552, 1)", map.add(552, 552, 1), 1);
        due.is("would(552, 553, 0) of the 25th", map.would(552, 553, 0), NO_WOULD);
    }

    private static void roomAgain() {
        ScaleGroups map = Maps.slope();
        due.promise(3);
        due.is("take(24)", map.take(24), NONE);
        // The two beside POINT 11 are linked in its stead.
        due.is("take(11)", map.take(11), 1);
        due.promise(2);
        due.is("add in its stead", map.add(264, 264, 1), 2);
        due.is("add of the 25th", map.add(9, 0, 1), NONE);
        due.promise(7);
        due.is("clear()", map.clear(), 24);
        due.promise(5);
        due.is("scatter(24)", map.scatter(24), 24);
    }

    private static void changesOfFull() {
        ScaleGroups map = Maps.slope();
        due.promise(4);
        due.is("weigh(23, 99)", map.weigh(23, 99), 1);
        due.is("weigh(24, 99)", map.weigh(24, 99), NONE);
        due.is("point(23, 2)", map.point(23, 2), 99);
        due.promise(40);
        due.is("look(1)", map.look(1), 23 + 99);
        due.promise(3);
        due.is("take(23)", map.take(23), 0);
        due.is("take(23) again", map.take(23), NONE);
        due.promise(40);
        due.is("look(1)", map.look(1), 23);
    }

    // ---- 24 on one line

    private static void towerPoints() {
        ScaleGroups map = Maps.tower();
        due.promise(9);
        for (int i = 0; i < 24; i++) {
            // Of like PAIRS that with the lesser numbers: with the one ahead, but for the first.
            int first = i == 0 ? 1 : i - 1;
            due.row("point(" + i + ", what)", pointOf(map, i), 0, 512, 5 + 44 * i, 99, first, 1936,
                    i % 23 == 0 ? 1 : 2);
        }
        due.row("point(24, what)", pointOf(map, 24), 0, NONE, NONE, NONE, NONE, NONE, NONE);
        due.promise(11);
        for (int k = 0; k < 24; k++) {
            due.is("near(0, -9999, " + k + ")", map.near(0, -9999, k), k);
            due.is("near(512, 9999, " + k + ")", map.near(512, 9999, k), 23 - k);
        }
        due.is("near(0, 0, 24)", map.near(0, 0, 24), NONE);
    }

    private static IntUnaryOperator pointOf(ScaleGroups map, int point) {
        return what -> map.point(point, what);
    }

    private static void towerJoins() {
        ScaleGroups map = Maps.tower();
        due.promise(12);
        for (int j = 0; j < 23; j++) {
            int join = j;
            due.row("join(" + j + ", what)", what -> map.join(join, what), 0, 1936, j, j + 1, j + 2, 99 * (j + 2),
                    j == 0 ? 0 : 100 + j - 1, j + 1, j == 22 ? NONE : j + 1, 0, j == 22 ? 1 : 0);
        }
        due.is("join(23, 0)", map.join(23, 0), NONE);
        due.promise(13);
        for (int q = 1; q < 24; q++) {
            due.is("meets(0, " + q + ")", map.meets(0, q), q - 1);
            due.is("meets(" + q + ", " + (q - 1) + ")", map.meets(q, q - 1), q - 1);
        }
        ScaleGroups again = Maps.tower();
        due.promise(14);
        due.is("path(0, 23, NONE)", again.path(0, 23, NONE), 23);
        for (int i = 0; i < 24; i++) {
            due.is("path(0, 23, " + i + ")", again.path(0, 23, i), i);
            due.is("path(23, 0, " + i + ")", again.path(23, 0, i), 23 - i);
        }
        due.promise(15);
        due.row("longest", what -> again.longest(what), 0, 1012, 0, 23);
    }

    /** 44 is within RADIUS of z 4 (64), but not of z 5 (32). All CENTRES of z 4 and above are at (512, 511). */
    private static void towerScales() {
        ScaleGroups map = Maps.tower();
        due.promise(17);
        due.row("groups", z -> map.groups(z), 0, 1, 1, 1, 1, 1, 24, 24, 24, 24, 24, 24);
        due.promise(16);
        due.is("zoom(0, 23)", map.zoom(0, 23), 4);
        due.promise(18);
        for (int p = 0; p < 24; p++) {
            due.is("groupOf(4, " + p + ")", map.groupOf(4, p), 0);
            due.is("groupOf(5, " + p + ")", map.groupOf(5, p), p);
        }
        due.promise(19);
        due.row("group(4, 0, what)", what -> map.group(4, 0, what), 0, 0, 24, 2376, 512, 512, 5, 1017, 512, 511, 0,
                22, 24, 1012 * 1012);
        due.row("group(5, 23, what)", what -> map.group(5, 23, what), 0, 23, 1, 99, 512, 512, 1017, 1017, 512, 1017, 23,
                NONE, 1, 0);
        due.promise(20);
        due.row("member(4, 0, i)", i -> map.member(4, 0, i), 20, 20, 21, 22, 23, NONE);
        due.promise(21);
        due.row("splits(4, 0, i)", i -> map.splits(4, 0, i), 20, 20, 21, 22, 23, NONE);
        due.row("splits(5, 23, i)", i -> map.splits(5, 23, i), 0, 23, NONE);
        due.promise(29);
        // 44 times (11.5, 10.5, .. 0.5, twice)
        due.row("drift", z -> map.drift(z), 0, 0, 0, 0, 0, 44 * 144, 0, 0, 0, 0, 0, NONE);
    }

    private static void towerPlaces() {
        ScaleGroups map = Maps.tower();
        due.promise(22);
        due.row("window(5, whole, what)", what -> map.window(5, 0, 1023, 0, 1023, what), 0, 24, 2376, 24, 2376);
        due.row("window(4, whole, what)", what -> map.window(4, 0, 1023, 0, 1023, what), 0, 1, 2376, 24, 2376);
        due.promise(23);
        due.row("top(5, whole, i)", i -> map.top(5, 0, 1023, 0, 1023, i), 22, 22, 23, NONE);
        due.promise(24);
        due.row("filled(z, NONE)", z -> map.filled(z, NONE), 0, 1, 2, 4, 8, 16, 24, 24, 24, 24, 24, 24);
        due.is("filled(10, 23)", map.filled(10, 23), 1024 * 1017 + 512);
        due.promise(25);
        // RADIUS of z 4 is 64: two are within, of many such squares the first.
        due.row("densest(4, what)", what -> map.densest(4, what), 0, 512, 5, 198, 2);
        due.row("densest(0, what)", what -> map.densest(0, what), 0, 512, 5, 2376, 24);
        due.promise(26);
        due.is("cover(4, 0)", map.cover(4, 0), 1);
        due.is("cover(5, 23)", map.cover(5, 23), 1);
        due.promise(27);
        due.row("outline(4, 0, i)", i -> map.outline(4, 0, i), -1, 2, 0, 23, NONE);
        due.promise(28);
        due.is("area(4, 0)", map.area(4, 0), 0);
        due.promise(30);
        due.row("tile(0, 0, 0, what)", what -> map.tile(0, 0, 0, what), 0, 24, 2376, 1, 2 | 8);
        due.row("tile(5, 16, 31, what)", what -> map.tile(5, 16, 31, what), 0, 1, 99, 1, 4);
    }

    private static void towerParts() {
        ScaleGroups map = Maps.tower();
        due.promise(31);
        for (int k = 1; k <= 24; k++) {
            // By the first 24 less k JOINS the first 25 less k POINTS are one part.
            due.is("part(" + k + ", " + (24 - k) + ")", map.part(k, 24 - k), 0);
            due.is("part(" + k + ", 23)", map.part(k, 23), k == 1 ? 0 : 23);
        }
        due.promise(32);
        due.is("clearest(), all k being alike", map.clearest(), 2);
        due.promise(33);
        due.is("best(0)", map.best(0), 24 * 99 * 44);
        due.is("best(1)", map.best(1), 24);
        due.row("best(10 and i)", what -> map.best(what), 32, 22, 23, NONE);
        due.promise(34);
        due.is("shown(4)", map.shown(4), 1);
        due.is("shown(5)", map.shown(5), 24);
        map.size(999);
        due.is("shown(5) with the greatest SIZE", map.shown(5), 24);
        due.promise(37);
        due.row("repaired", what -> map.repaired(what), 0, 1, 0, 1936, 22);
        due.promise(39);
        due.is("stirred(4)", map.stirred(4), 0);
        map.take(12);
        // 12 below it and 11 above it
        due.is("stirred(4), less the one in the middle", map.stirred(4), 12 * 11);
        due.promise(40);
        ScaleGroups whole = Maps.tower();
        due.row("look", what -> whole.look(what), 0, 24, 2376, 64, 0, 23 * 1936, 23 * 44, 1012 * 1012, 2, 5 + 6 * 24);
    }

    private static void slopeOutline() {
        ScaleGroups map = Maps.slope();
        due.promise(27);
        due.row("outline(0, 0, i) of a slope", i -> map.outline(0, 0, i), -2, NONE, 2, 0, 23, NONE);
        due.promise(28);
        due.is("area(0, 0) of a slope", map.area(0, 0), 0);
        // One beside the line, and there are three corners.
        map.take(12);
        map.add(288, 287, 1);
        due.promise(27);
        due.row("outline(0, 0, i) of a bent slope", i -> map.outline(0, 0, i), -1, 3, 0, 12, 23, NONE);
        due.promise(28);
        due.is("area(0, 0) of a bent slope", map.area(0, 0), 552);
        map.take(12);
        map.add(288, 289, 1);
        due.promise(27);
        due.row("outline(0, 0, i) bent upwards", i -> map.outline(0, 0, i), -1, 3, 0, 23, 12, NONE);
        due.promise(28);
        due.is("area(0, 0) bent upwards", map.area(0, 0), 552);
    }

    /** Two that are 24 by x and by y from one another are two GROUPS of z 5, where SIZE is 24 with 768 and 23 below. */
    private static void slopeLabels() {
        ScaleGroups map = Maps.slope();
        due.promise(17);
        due.is("groups(5) of a slope", map.groups(5), 24);
        map.size(767);
        due.promise(34);
        due.is("shown(5) of a slope, all farther", map.shown(5), 24);
        map.size(768);
        due.is("shown(5) of a slope, each other one", map.shown(5), 12);
        for (int i = 0; i < 12; i++) {
            int at = i;
            due.promise(35);
            due.row("label(5, " + i + ", what)", what -> map.label(5, at, what), 0, 2 * i, 2, 1);
            due.promise(36);
            due.is("counted(5, " + 2 * i + ")", map.counted(5, 2 * i), 2 * i);
            // As near to the one behind it, but this was SHOWN first.
            due.is("counted(5, " + (2 * i + 1) + ")", map.counted(5, 2 * i + 1), 2 * i);
        }
        due.promise(35);
        due.is("label(5, 12, 0)", map.label(5, 12, 0), NONE);
    }

    // ---- many pairs as far APART: POINT 4 c + r at (10 c, 10 r)

    private static void gridPoints() {
        ScaleGroups map = Maps.grid();
        due.promise(9);
        for (int i = 0; i < 24; i++) {
            due.is("point(" + i + ", 0) of a grid", map.point(i, 0), 10 * (i / 4));
            due.is("point(" + i + ", 1) of a grid", map.point(i, 1), 10 * (i % 4));
            // Of its neighbours that with the least number: left, else below, else above.
            int first = i >= 4 ? i - 4 : i > 0 ? i - 1 : 1;
            due.is("point(" + i + ", 3) of a grid", map.point(i, 3), first);
            due.is("point(" + i + ", 4) of a grid", map.point(i, 4), 100);
        }
        due.promise(11);
        // (5, 5) is as far from 0, 1, 4, 5; then from 2, 6, 8, 9; then from 10.
        due.row("near(5, 5, k) of a grid", k -> map.near(5, 5, k), 0, 0, 1, 4, 5, 2, 6, 8, 9, 10);
        // (25, 15) is the middle: four, then eight, then four, then four, then four as far from it.
        due.row("near(25, 15, k) of a grid", k -> map.near(25, 15, k), 0, 9, 10, 13, 14, 5, 6, 8, 11, 12, 15, 17, 18,
                4, 7, 16, 19, 1, 2, 21, 22, 0, 3, 20, 23, NONE);
    }

    /** JOINS: 0 1, 0 4, 1 2, 1 5, 2 3, 2 6, 3 7, then 4 8, 5 9, .. 19 23, as all else would close a ring. */
    private static void gridJoins() {
        ScaleGroups map = Maps.grid();
        int[] firsts = {0, 0, 1, 1, 2, 2, 3};
        int[] seconds = {1, 4, 2, 5, 3, 6, 7};
        due.promise(12);
        for (int j = 0; j < 23; j++) {
            int first = j < 7 ? firsts[j] : j - 3;
            int second = j < 7 ? seconds[j] : j + 1;
            int join = j;
            due.row("join(" + j + ", what) of a grid", what -> map.join(join, what), 0, 100, first, second, j + 2,
                    j + 2, j == 0 ? 0 : 100 + j - 1, second, j == 22 ? NONE : j + 1, 0);
        }
        due.is("join(23, 0) of a grid", map.join(23, 0), NONE);
        due.promise(13);
        due.is("meets(0, 23) of a grid", map.meets(0, 23), 22);
        due.is("meets(4, 5) of a grid", map.meets(4, 5), 3);
        due.is("meets(20, 21) of a grid", map.meets(20, 21), 20);
    }

    private static void gridWays() {
        ScaleGroups map = Maps.grid();
        due.promise(14);
        // From the one column to the first, up, and back.
        due.row("path(20, 23, i) of a grid", i -> map.path(20, 23, i), -1, 13, 20, 16, 12, 8, 4, 0, 1, 2, 3, 7, 11,
                15, 19, 23, NONE);
        due.row("path(5, 4, i) of a grid", i -> map.path(5, 4, i), -1, 3, 5, 1, 0, 4, NONE);
        due.promise(15);
        due.row("longest of a grid", what -> map.longest(what), 0, 130, 20, 23);
        due.promise(9);
        due.row("links of a grid", p -> map.point(p, 5), 0, 2, 3, 3, 2, 2, 2, 2, 2, 2, 2, 2, 2, 2, 2, 2, 2, 2, 2, 2,
                2, 1, 1, 1, 1, NONE);
        due.promise(40);
        due.is("look(7) of a grid", map.look(7), 3);
        due.is("look(4) of a grid", map.look(4), 2300);
        due.is("look(6) of a grid", map.look(6), 2500 + 900);
        due.promise(32);
        due.is("clearest() of a grid", map.clearest(), 2);
        due.promise(33);
        due.is("best(0) of a grid", map.best(0), 240);
        due.is("best(1) of a grid", map.best(1), 24);
    }

    private static void gridScales() {
        ScaleGroups map = Maps.grid();
        due.promise(17);
        due.is("groups(6) of a grid", map.groups(6), 1);
        due.is("groups(7) of a grid", map.groups(7), 24);
        due.promise(19);
        due.row("group(6, 0, what) of a grid", what -> map.group(6, 0, what), 0, 0, 24, 24, 0, 50, 0, 30, 25, 15, 0,
                22, 24, 3400);
        due.promise(27);
        due.row("outline(6, 0, i) of a grid", i -> map.outline(6, 0, i), -1, 4, 0, 20, 23, 3, NONE);
        due.promise(28);
        due.is("area(6, 0) of a grid", map.area(6, 0), 3000);
        due.promise(25);
        // RADIUS of z 6 is 16: four are within, of z 5 it is 32: sixteen.
        due.row("densest(6, what) of a grid", what -> map.densest(6, what), 0, 0, 0, 4, 4);
        due.row("densest(5, what) of a grid", what -> map.densest(5, what), 0, 0, 0, 16, 16);
        due.promise(23);
        due.row("top(7, whole, i) of a grid", i -> map.top(7, 0, 1023, 0, 1023, i), 21, 21, 22, 23, NONE);
        due.promise(24);
        // TILES of z 6 have 16 a side: x 0 and 10, 20 and 30, 40, 50; y 0 and 10, 20 and 30.
        due.row("filled(6, i) of a grid", i -> map.filled(6, i), -1, 8, 0, 1, 2, 3, 1024, 1025, 1026, 1027, NONE);
        due.promise(29);
        // by x or y, the greater, from (25, 15): 25 of eight, 15 of eight, 15 of four and 5 of four
        due.is("drift(6) of a grid", map.drift(6), 8 * 25 + 12 * 15 + 4 * 5);
        due.promise(34);
        map.size(640);
        // SIZE is 5 at z 7: 10 are farther.
        due.is("shown(7) of a grid", map.shown(7), 24);
    }

    /** Without POINT 0 its links are in the stead of others that were as far APART. */
    private static void gridWithout() {
        ScaleGroups map = Maps.grid();
        due.promise(3);
        // POINTS 1 and 4 of ahead were linked by 0: in its stead by 4 and 5.
        due.is("take(0) of a grid", map.take(0), 1);
        due.promise(37);
        due.row("repaired of a grid", what -> map.repaired(what), 0, 1, 2, -100, 0);
        due.promise(12);
        // 1 and 2 are 0 and 1 now, 4 is 3 and 5 is 4.
        int[] pairs = {0, 1, 0, 4, 1, 2, 1, 5, 2, 6, 3, 4, 3, 7};
        for (int j = 0; j < 7; j++) {
            due.is("join(" + j + ", 1) of a grid less one", map.join(j, 1), pairs[2 * j]);
            due.is("join(" + j + ", 2) of a grid less one", map.join(j, 2), pairs[2 * j + 1]);
        }
        due.promise(38);
        due.row("would(0, 0, what) of a grid less one", what -> map.would(0, 0, what), 0, 2, 100);
        due.promise(2);
        due.is("add(0, 0, 1) of a grid less one", map.add(0, 0, 1), 2);
    }

    /** 24 places 65 from (500, 500): as near to it all, so by their numbers. */
    private static void circle() {
        ScaleGroups map = new ScaleGroups();
        int[][] legs = {{16, 63}, {63, 16}, {25, 60}, {60, 25}, {33, 56}, {56, 33}};
        for (int[] leg : legs) {
            map.add(500 + leg[0], 500 + leg[1], 1);
            map.add(500 - leg[0], 500 + leg[1], 1);
            map.add(500 + leg[0], 500 - leg[1], 1);
            map.add(500 - leg[0], 500 - leg[1], 1);
        }
        due.promise(11);
        due.is("look(0)", map.look(0), 24);
        for (int k = 0; k < 24; k++) {
            due.is("near(500, 500, " + k + ") on a circle", map.near(500, 500, k), k);
        }
        due.is("near(500, 500, 24) on a circle", map.near(500, 500, 24), NONE);
        due.promise(27);
        // No three of them are on one line: all are corners.
        due.is("outline(0, 0, NONE) of a circle", map.outline(0, 0, NONE), 24);
        due.is("outline(0, 0, 0) of a circle", map.outline(0, 0, 0), 0);
        due.is("outline(0, 0, 1) of a circle", map.outline(0, 0, 1), 2);
        due.is("outline(0, 0, 23) of a circle", map.outline(0, 0, 23), 1);
        due.is("outline(0, 0, 24) of a circle", map.outline(0, 0, 24), NONE);
        due.promise(19);
        due.is("group(0, 0, 7) of a circle", map.group(0, 0, 7), 500);
        due.is("group(0, 0, 12) of a circle", map.group(0, 0, 12), 130 * 130);
    }

    /** The greatest WEIGHTS at the greatest places. */
    private static void farthest() {
        ScaleGroups map = new ScaleGroups();
        for (int i = 0; i < 24; i++) {
            map.add(1023 - i % 5, 1023 - i / 5, 99);
        }
        due.promise(40);
        due.is("look(0)", map.look(0), 24);
        due.is("look(1)", map.look(1), 2376);
        due.promise(19);
        // x 1019 to 1023 four times, 1020 to 1023 once more; y 1023 five times, .. 1020 five times, 1019 four times
        due.is("group(10, 0, 2)", map.group(10, 0, 2), 2376);
        due.is("group(10, 0, 7)", map.group(10, 0, 7), 1021);
        due.is("group(10, 0, 8)", map.group(10, 0, 8), 1021);
        due.is("group(10, 0, 12)", map.group(10, 0, 12), 32);
        due.promise(30);
        due.row("tile(1, 1, 1, what)", what -> map.tile(1, 1, 1, what), 0, 24, 2376, 1, 8);
        due.promise(33);
        due.is("best(0)", map.best(0), 2376);
        due.promise(25);
        due.row("densest(1, what)", what -> map.densest(1, what), 0, 1019, 1019, 2376, 24);
    }
}
