/** Each promise of the document with answers worked out by hand: ordinary inputs, its edges, wrong inputs. */
public final class Promises {
    private static final int NONE = -1;
    private static final int LEAST = Integer.MIN_VALUE;
    private static final int MOST = Integer.MAX_VALUE;

    private static final int[] tested = new int[41];
    private static int promise = 0;
    private static int wrong = 0;

    public static void main(String[] args) {
        newObject();
        add();
        addFull();
        take();
        weigh();
        scatter();
        scatterNoRoom();
        state();
        clear();
        size();
        point();
        at();
        near();
        join();
        joinOrder();
        meets();
        path();
        longest();
        zoom();
        groups();
        groupOf();
        group();
        groupCentre();
        member();
        splits();
        window();
        top();
        filled();
        densest();
        cover();
        outline();
        area();
        drift();
        tile();
        part();
        clearest();
        best();
        bestOfSeveral();
        shown();
        label();
        counted();
        repaired();
        would();
        stirred();
        look();
        fullMap();
        anyOrder();
        for (int i = 1; i <= 40; i++) {
            if (tested[i] == 0) {
                wrong++;
                System.out.println("promise " + i + " has no test");
            }
        }
        System.out.println(wrong == 0 ? "Promises: all answers are as due" : "Promises: " + wrong + " wrong");
        System.exit(wrong == 0 ? 0 : 1);
    }

    private static void due(String call, int got, int want) {
        tested[promise]++;
        if (got != want) {
            wrong++;
            System.out.println("promise " + promise + ": " + call + " answered " + got + ", due is " + want);
        }
    }

    /** A new object with POINTS: x, y, WEIGHT of each. */
    private static ScaleGroups map(int... numbers) {
        ScaleGroups map = new ScaleGroups();
        for (int i = 0; i + 2 < numbers.length; i += 3) {
            map.add(numbers[i], numbers[i + 1], numbers[i + 2]);
        }
        return map;
    }

    /**
     * POINTS 0 (0, 0) of 5, 1 (0, 30) of 2, 2 (10, 0) of 3, 3 (500, 500) of 7. JOINS: 0 of 0 and 2 (100, ROOT 10),
     * 1 of 0 and 1 (900, ROOT 30), 2 of 1 and 3 (470900, ROOT 686).
     */
    private static ScaleGroups corner() {
        return map(500, 500, 7, 10, 0, 3, 0, 0, 5, 0, 30, 2);
    }

    /** POINTS on a line with y 0, each of WEIGHT 1. */
    private static ScaleGroups line(int... xs) {
        ScaleGroups map = new ScaleGroups();
        for (int x : xs) {
            map.add(x, 0, 1);
        }
        return map;
    }

    /** Corners 0 (100, 300), 1 (130, 360), 2 (150, 250), 4 (210, 350), 5 (220, 280), and 3 within. */
    private static ScaleGroups pentagon() {
        return map(100, 300, 1, 130, 360, 1, 150, 250, 1, 160, 300, 1, 210, 350, 1, 220, 280, 1);
    }

    private static void newObject() {
        promise = 1;
        ScaleGroups map = new ScaleGroups();
        due("NONE", ScaleGroups.NONE, -1);
        due("look(0)", map.look(0), 0);
        due("look(1)", map.look(1), 0);
        due("look(2)", map.look(2), 64);
        due("look(3)", map.look(3), 0);
        due("point(0, 0)", map.point(0, 0), NONE);
        due("join(0, 0)", map.join(0, 0), NONE);
        due("groups(10)", map.groups(10), 0);
        new ScaleGroups().add(1, 1, 1);
        due("look(0) beside another object", map.look(0), 0);
    }

    private static void add() {
        promise = 2;
        ScaleGroups map = new ScaleGroups();
        due("add of the first", map.add(500, 500, 7), 0);
        due("add of the second", map.add(10, 0, 3), 1);
        due("add of a nearer one", map.add(0, 0, 5), 1);
        due("add that changes a JOIN", map.add(0, 30, 2), 2);
        due("add at a taken place", map.add(0, 0, 1), NONE);
        due("add left of the map", map.add(-1, 0, 1), NONE);
        due("add right of the map", map.add(1024, 0, 1), NONE);
        due("add below the map", map.add(0, -1, 1), NONE);
        due("add above the map", map.add(0, 1024, 1), NONE);
        due("add far out", map.add(LEAST, MOST, 1), NONE);
        due("add of no WEIGHT", map.add(1, 1, 0), NONE);
        due("add of too much WEIGHT", map.add(1, 1, 100), NONE);
        due("add of a WEIGHT below 0", map.add(1, 1, LEAST), NONE);
        due("look(0)", map.look(0), 4);
        due("look(1)", map.look(1), 17);
        due("add at the last place of the greatest WEIGHT", map.add(1023, 1023, 99), 1);
        due("add at an edge of the least WEIGHT", map.add(1023, 0, 1), 1);
        due("look(1)", map.look(1), 117);
        due("point(0, 0)", map.point(0, 0), 0);
        due("point(5, 1)", map.point(5, 1), 1023);
        // Between two that were one JOIN: both of its own are NEW.
        ScaleGroups between = line(0, 100);
        due("add between", between.add(50, 0, 1), 2);
        due("join(0, 0)", between.join(0, 0), 2500);
    }

    private static void addFull() {
        promise = 2;
        ScaleGroups map = new ScaleGroups();
        for (int i = 0; i < 24; i++) {
            due("add of the " + (i + 1) + "-th", map.add(1000 - 10 * i, i, 1 + i), i == 0 ? 0 : 1);
        }
        due("add of the 25th", map.add(5, 5, 5), NONE);
        due("look(0)", map.look(0), 24);
        due("point(0, 1)", map.point(0, 1), 23);
        due("take(23)", map.take(23), 0);
        due("add in its stead", map.add(5, 5, 5), 1);
        due("look(0)", map.look(0), 24);
        due("point(0, 2)", map.point(0, 2), 5);
    }

    private static void take() {
        promise = 3;
        // A star: all JOINS are with the one in the middle, POINT 2.
        ScaleGroups map = map(100, 100, 1, 0, 100, 2, 200, 100, 3, 100, 0, 4, 100, 200, 5);
        due("point(2, 5)", map.point(2, 5), 4);
        due("take(5)", map.take(5), NONE);
        due("take(-1)", map.take(-1), NONE);
        due("take(LEAST)", map.take(LEAST), NONE);
        due("take(MOST)", map.take(MOST), NONE);
        due("look(0)", map.look(0), 5);
        due("take of the middle", map.take(2), 3);
        due("look(0)", map.look(0), 4);
        due("look(1)", map.look(1), 14);
        due("point(2, 1)", map.point(2, 1), 200);
        due("join(0, 0)", map.join(0, 0), 20000);
        due("take of an end", map.take(3), 0);
        due("take of the first", map.take(0), 1);
        due("take", map.take(0), 0);
        due("look(1)", map.look(1), 5);
        due("take of the last", map.take(0), 0);
        due("look(0)", map.look(0), 0);
        due("take of none", map.take(0), NONE);
    }

    private static void weigh() {
        promise = 4;
        ScaleGroups map = corner();
        due("weigh(0, 99)", map.weigh(0, 99), 5);
        due("weigh(0, 1)", map.weigh(0, 1), 99);
        due("point(0, 2)", map.point(0, 2), 1);
        due("weigh(3, 8)", map.weigh(3, 8), 7);
        due("weigh(0, 0)", map.weigh(0, 0), NONE);
        due("weigh(0, 100)", map.weigh(0, 100), NONE);
        due("weigh(4, 5)", map.weigh(4, 5), NONE);
        due("weigh(-1, 5)", map.weigh(-1, 5), NONE);
        due("look(1)", map.look(1), 14);
        due("group(1, 0, 2)", map.group(1, 0, 2), 6);
        due("join(1, 8)", map.join(1, 8), 6 * (686 - 30));
        due("repaired(0), of the add ahead", map.repaired(0), 2);
        due("weigh of none", new ScaleGroups().weigh(0, 1), NONE);
    }

    /** STATE from 0 on: 1013904223, 1196435762, 3519870697: DRAWS 755 of 1024, 41 of 1024, 77 of 99. */
    private static void scatter() {
        promise = 5;
        ScaleGroups map = new ScaleGroups();
        due("scatter(0)", map.scatter(0), NONE);
        due("scatter(25)", map.scatter(25), NONE);
        due("scatter(-1)", map.scatter(-1), NONE);
        due("scatter(MOST)", map.scatter(MOST), NONE);
        due("look(3)", map.look(3), 0);
        due("scatter(1)", map.scatter(1), 1);
        due("point(0, 0)", map.point(0, 0), 755);
        due("point(0, 1)", map.point(0, 1), 41);
        due("point(0, 2)", map.point(0, 2), 78);
        due("look(3)", map.look(3), -775096599);
        due("repaired(0)", map.repaired(0), 0);
        due("scatter(3)", map.scatter(3), 3);
        due("repaired(0), of all three", map.repaired(0), 3);
        due("repaired(1)", map.repaired(1), 0);
        due("look(0)", map.look(0), 4);
    }

    private static void scatterNoRoom() {
        promise = 5;
        ScaleGroups map = new ScaleGroups();
        map.scatter(1);
        map.state(0);
        due("scatter(1) at a taken place", map.scatter(1), 0);
        due("look(3)", map.look(3), -775096599);
        due("point(0, 2)", map.point(0, 2), 78);
        due("repaired(3), of none that came", map.repaired(3), 0);
        map.clear();
        map.state(0);
        due("scatter(24)", map.scatter(24), 24);
        int before = map.look(3);
        due("scatter(2) of a full map", map.scatter(2), 0);
        int due = before;
        for (int i = 0; i < 6; i++) {
            due = 1664525 * due + 1013904223;
        }
        due("look(3)", map.look(3), due);
        due("repaired(0)", map.repaired(0), 0);
        due("repaired(3)", map.repaired(3), 23);
        map.take(0);
        map.take(0);
        due("scatter(5) with room for two", map.scatter(5), 2);
    }

    private static void state() {
        promise = 6;
        ScaleGroups map = new ScaleGroups();
        due("state(-5)", map.state(-5), 0);
        due("state(MOST)", map.state(MOST), -5);
        due("state(LEAST)", map.state(LEAST), MOST);
        due("look(3)", map.look(3), LEAST);
        due("state(1013904223)", map.state(1013904223), LEAST);
        map.scatter(1);
        // The DRAWS are those of 1196435762, 3519870697, 2868466484.
        due("point(0, 0)", map.point(0, 0), (int) ((1196435762L >> 8) % 1024));
        due("point(0, 1)", map.point(0, 1), (int) ((3519870697L >> 8) % 1024));
        due("point(0, 2)", map.point(0, 2), (int) ((2868466484L >> 8) % 99) + 1);
        due("state(0)", map.state(0), (int) 2868466484L);
    }

    private static void clear() {
        promise = 7;
        ScaleGroups map = corner();
        map.size(300);
        map.state(9);
        due("clear()", map.clear(), 4);
        due("look(0)", map.look(0), 0);
        due("look(1)", map.look(1), 0);
        due("look(2)", map.look(2), 300);
        due("look(3)", map.look(3), 9);
        due("look(4)", map.look(4), 0);
        due("repaired(1)", map.repaired(1), 3);
        due("join(0, 0)", map.join(0, 0), NONE);
        due("clear() again", map.clear(), 0);
        due("repaired(1)", map.repaired(1), 0);
        due("add(0, 0, 1)", map.add(0, 0, 1), 0);
        due("clear() of a new object", new ScaleGroups().clear(), 0);
    }

    private static void size() {
        promise = 8;
        ScaleGroups map = new ScaleGroups();
        due("size(0)", map.size(0), 64);
        due("size(999)", map.size(999), 0);
        due("size(1000)", map.size(1000), NONE);
        due("size(-1)", map.size(-1), NONE);
        due("size(LEAST)", map.size(LEAST), NONE);
        due("size(7)", map.size(7), 999);
        due("look(2)", map.look(2), 7);
    }

    private static void point() {
        promise = 9;
        ScaleGroups map = corner();
        due("point(1, 0)", map.point(1, 0), 0);
        due("point(1, 1)", map.point(1, 1), 30);
        due("point(1, 2)", map.point(1, 2), 2);
        due("point(0, 3)", map.point(0, 3), 2);
        due("point(0, 4)", map.point(0, 4), 100);
        due("point(0, 5)", map.point(0, 5), 2);
        due("point(3, 3)", map.point(3, 3), 1);
        due("point(3, 4)", map.point(3, 4), 470900);
        due("point(3, 5)", map.point(3, 5), 1);
        due("point(0, 6)", map.point(0, 6), NONE);
        due("point(0, -1)", map.point(0, -1), NONE);
        due("point(4, 0)", map.point(4, 0), NONE);
        due("point(-1, 0)", map.point(-1, 0), NONE);
        due("point(LEAST, 0)", map.point(LEAST, 0), NONE);
        // Of like PAIRS the first in ORDER: 1 and 0 ahead of 1 and 2.
        ScaleGroups even = line(10, 20, 30);
        due("point(1, 3)", even.point(1, 3), 0);
        due("point(1, 5)", even.point(1, 5), 2);
        ScaleGroups one = line(5);
        due("point(0, 3) alone", one.point(0, 3), NONE);
        due("point(0, 4) alone", one.point(0, 4), NONE);
        due("point(0, 5) alone", one.point(0, 5), 0);
        // Numbers are by x, of like ones by y, in whatever order they came.
        ScaleGroups numbers = map(5, 9, 1, 4, 10, 2, 5, 8, 3);
        due("point(0, 2)", numbers.point(0, 2), 2);
        due("point(1, 2)", numbers.point(1, 2), 3);
        due("point(2, 2)", numbers.point(2, 2), 1);
    }

    private static void at() {
        promise = 10;
        ScaleGroups map = corner();
        due("at(0, 0)", map.at(0, 0), 0);
        due("at(0, 30)", map.at(0, 30), 1);
        due("at(10, 0)", map.at(10, 0), 2);
        due("at(500, 500)", map.at(500, 500), 3);
        due("at(30, 0)", map.at(30, 0), NONE);
        due("at(-1, 0)", map.at(-1, 0), NONE);
        due("at(LEAST, MOST)", map.at(LEAST, MOST), NONE);
        map.take(0);
        due("at(0, 0) after take", map.at(0, 0), NONE);
        due("at(500, 500) after take", map.at(500, 500), 2);
        due("at(0, 0) of none", new ScaleGroups().at(0, 0), NONE);
    }

    private static void near() {
        promise = 11;
        ScaleGroups map = corner();
        due("near(0, 0, 0)", map.near(0, 0, 0), 0);
        due("near(0, 0, 1)", map.near(0, 0, 1), 2);
        due("near(0, 0, 2)", map.near(0, 0, 2), 1);
        due("near(0, 0, 3)", map.near(0, 0, 3), 3);
        due("near(0, 0, 4)", map.near(0, 0, 4), NONE);
        due("near(0, 0, -1)", map.near(0, 0, -1), NONE);
        due("near(5, 0, 0), of like ones", map.near(5, 0, 0), 0);
        due("near(5, 0, 1), of like ones", map.near(5, 0, 1), 2);
        due("near(9999, 9999, 0)", map.near(9999, 9999, 0), 3);
        due("near(-9999, -9999, 0)", map.near(-9999, -9999, 0), 0);
        due("near(-9999, 9999, 0)", map.near(-9999, 9999, 0), 1);
        due("near(10000, 0, 0)", map.near(10000, 0, 0), NONE);
        due("near(0, 10000, 0)", map.near(0, 10000, 0), NONE);
        due("near(-10000, 0, 0)", map.near(-10000, 0, 0), NONE);
        due("near(0, LEAST, 0)", map.near(0, LEAST, 0), NONE);
        due("near(0, 0, 0) of none", new ScaleGroups().near(0, 0, 0), NONE);
    }

    private static void join() {
        promise = 12;
        ScaleGroups map = corner();
        int[][] due = {{100, 0, 2, 2, 8, 0, 2, 1, 8 * 20, 0}, {900, 0, 1, 3, 10, 100, 1, 2, 10 * 656, 1},
                {470900, 1, 3, 4, 17, 101, 3, NONE, 0, 1}};
        for (int j = 0; j < 3; j++) {
            for (int what = 0; what < 10; what++) {
                due("join(" + j + ", " + what + ")", map.join(j, what), due[j][what]);
            }
        }
        due("join(0, 10)", map.join(0, 10), NONE);
        due("join(0, -1)", map.join(0, -1), NONE);
        due("join(3, 0)", map.join(3, 0), NONE);
        due("join(-1, 0)", map.join(-1, 0), NONE);
        due("join(MOST, 0)", map.join(MOST, 0), NONE);
        due("join(0, 0) of one", line(1).join(0, 0), NONE);
        due("join(0, 0) of none", new ScaleGroups().join(0, 0), NONE);
    }

    private static void joinOrder() {
        promise = 12;
        // A square: four like PAIRS, in ORDER 0 1, 0 2, 1 3, 2 3; the last closes a ring and is no JOIN.
        ScaleGroups map = map(0, 0, 1, 0, 8, 1, 8, 0, 1, 8, 8, 1);
        int[][] pairs = {{0, 1}, {0, 2}, {1, 3}};
        for (int j = 0; j < 3; j++) {
            due("join(" + j + ", 0)", map.join(j, 0), 64);
            due("join(" + j + ", 1)", map.join(j, 1), pairs[j][0]);
            due("join(" + j + ", 2)", map.join(j, 2), pairs[j][1]);
        }
        // The first SIDE is the first POINT's, though its NODE may be the one or the other kind.
        ScaleGroups sides = line(0, 10, 11);
        due("join(1, 5)", sides.join(1, 5), 0);
        due("join(1, 6)", sides.join(1, 6), 100);
        due("join(0, 7)", sides.join(0, 7), 1);
        // ROOT is rounded down: of 99 it is 9, of 100 it is 10.
        ScaleGroups roots = map(0, 0, 1, 3, 3, 2, 3, 13, 1);
        due("join(0, 0)", roots.join(0, 0), 18);
        due("join(0, 8)", roots.join(0, 8), 3 * (10 - 4));
    }

    private static void meets() {
        promise = 13;
        ScaleGroups map = corner();
        due("meets(0, 2)", map.meets(0, 2), 0);
        due("meets(2, 0)", map.meets(2, 0), 0);
        due("meets(1, 2)", map.meets(1, 2), 1);
        due("meets(3, 2)", map.meets(3, 2), 2);
        due("meets(1, 1)", map.meets(1, 1), NONE);
        due("meets(0, 4)", map.meets(0, 4), NONE);
        due("meets(-1, 0)", map.meets(-1, 0), NONE);
        due("meets(0, 34)", map.meets(0, 34), NONE);
        due("meets(34, 0)", map.meets(34, 0), NONE);
        due("meets(LEAST, MOST)", map.meets(LEAST, MOST), NONE);
        due("meets(0, 0) of one", line(1).meets(0, 0), NONE);
        due("meets(0, 1) of none", new ScaleGroups().meets(0, 1), NONE);
    }

    private static void path() {
        promise = 14;
        ScaleGroups map = corner();
        int[] way = {2, 0, 1, 3};
        due("path(2, 3, NONE)", map.path(2, 3, NONE), 3);
        for (int i = 0; i < 4; i++) {
            due("path(2, 3, " + i + ")", map.path(2, 3, i), way[i]);
            due("path(3, 2, " + i + ")", map.path(3, 2, i), way[3 - i]);
        }
        // The way turns aside nowhere: 0 and 1 hang on 2 of a star, as do 3 and 4.
        ScaleGroups star = map(50, 50, 1, 0, 50, 1, 100, 50, 1, 50, 0, 1, 50, 100, 1);
        due("path(0, 4, 1) of a star", star.path(0, 4, 1), 2);
        due("path(0, 4, 2) of a star", star.path(0, 4, 2), 4);
        due("path(3, 4, 1) of a star", star.path(3, 4, 1), 2);
        due("path(3, 4, 2) of a star", star.path(3, 4, 2), 4);
        due("path(3, 4, NONE) of a star", star.path(3, 4, NONE), 2);
        due("path(2, 3, 4)", map.path(2, 3, 4), NONE);
        due("path(2, 3, -2)", map.path(2, 3, -2), NONE);
        due("path(1, 1, NONE)", map.path(1, 1, NONE), 0);
        due("path(1, 1, 0)", map.path(1, 1, 0), 1);
        due("path(1, 1, 1)", map.path(1, 1, 1), NONE);
        due("path(0, 4, 0)", map.path(0, 4, 0), NONE);
        due("path(0, 4, NONE)", map.path(0, 4, NONE), NONE);
        due("path(-1, 0, 0)", map.path(-1, 0, 0), NONE);
        due("path(0, 0, 0) of none", new ScaleGroups().path(0, 0, 0), NONE);
        due("path(0, 0, NONE) of one", line(1).path(0, 0, NONE), 0);
    }

    private static void longest() {
        promise = 15;
        ScaleGroups map = corner();
        due("longest(0)", map.longest(0), 726);
        due("longest(1)", map.longest(1), 2);
        due("longest(2)", map.longest(2), 3);
        due("longest(3)", map.longest(3), NONE);
        due("longest(-1)", map.longest(-1), NONE);
        due("longest(0) of one", line(1).longest(0), NONE);
        due("longest(0) of none", new ScaleGroups().longest(0), NONE);
        due("longest(0) of two", line(1, 8).longest(0), 7);
        // A star: of six like ways that from 0 to 1, the middle being 2.
        ScaleGroups star = map(50, 50, 1, 0, 50, 1, 100, 50, 1, 50, 0, 1, 50, 100, 1);
        due("longest(0)", star.longest(0), 100);
        due("longest(1)", star.longest(1), 0);
        due("longest(2)", star.longest(2), 1);
        // ROOT of each link by itself: 1 and 1, where the square root of both together is 2.8.
        ScaleGroups diagonal = map(0, 0, 1, 1, 1, 1, 2, 2, 1);
        due("longest(0)", diagonal.longest(0), 2);
    }

    private static void zoom() {
        promise = 16;
        ScaleGroups map = corner();
        due("zoom(0, 2)", map.zoom(0, 2), 6);
        due("zoom(2, 1)", map.zoom(2, 1), 5);
        due("zoom(0, 3)", map.zoom(0, 3), 0);
        due("zoom(0, 0)", map.zoom(0, 0), NONE);
        due("zoom(0, 4)", map.zoom(0, 4), NONE);
        due("zoom(-1, 0)", map.zoom(-1, 0), NONE);
        due("zoom of two side by side", line(7, 8).zoom(0, 1), 10);
        due("zoom of two just a RADIUS from one another", line(0, 512).zoom(0, 1), 1);
        due("zoom of two just more", line(0, 513).zoom(0, 1), 0);
        due("zoom at none", map(0, 0, 1, 1023, 1023, 1).zoom(0, 1), NONE);
        due("zoom of none", new ScaleGroups().zoom(0, 1), NONE);
    }

    private static void groups() {
        promise = 17;
        ScaleGroups map = corner();
        int[] due = {1, 2, 2, 2, 2, 2, 3, 4, 4, 4, 4};
        for (int z = 0; z <= 10; z++) {
            due("groups(" + z + ")", map.groups(z), due[z]);
        }
        due("groups(-1)", map.groups(-1), NONE);
        due("groups(11)", map.groups(11), NONE);
        due("groups(LEAST)", map.groups(LEAST), NONE);
        due("groups of two just a RADIUS from one another", line(0, 512).groups(1), 1);
        due("groups of two just more", line(0, 513).groups(1), 2);
        due("groups of one", line(3).groups(0), 1);
        due("groups of none", new ScaleGroups().groups(0), 0);
        due("groups too far from one another for z 0", map(0, 0, 1, 1023, 1023, 1).groups(0), 2);
    }

    private static void groupOf() {
        promise = 18;
        ScaleGroups map = corner();
        int[] due = {0, 1, 0, 2};
        for (int p = 0; p < 4; p++) {
            due("groupOf(6, " + p + ")", map.groupOf(6, p), due[p]);
            due("groupOf(0, " + p + ")", map.groupOf(0, p), 0);
            due("groupOf(10, " + p + ")", map.groupOf(10, p), p);
        }
        due("groupOf(6, 4)", map.groupOf(6, 4), NONE);
        due("groupOf(6, -1)", map.groupOf(6, -1), NONE);
        due("groupOf(-1, 0)", map.groupOf(-1, 0), NONE);
        due("groupOf(11, 0)", map.groupOf(11, 0), NONE);
        due("groupOf(0, 0) of none", new ScaleGroups().groupOf(0, 0), NONE);
        due("groupOf(0, 0) of one", line(1).groupOf(0, 0), 0);
    }

    private static void group() {
        promise = 19;
        ScaleGroups map = corner();
        int[][] due = {{0, 3, 10, 0, 10, 0, 30, 3, 6, 0, 1, 2, 1000},
                {3, 1, 7, 500, 500, 500, 500, 500, 500, 3, NONE, 1, 0}};
        for (int g = 0; g < 2; g++) {
            for (int what = 0; what <= 12; what++) {
                due("group(5, " + g + ", " + what + ")", map.group(5, g, what), due[g][what]);
            }
        }
        due("group(0, 0, 11)", map.group(0, 0, 11), 2);
        due("group(1, 0, 11)", map.group(1, 0, 11), 1);
        due("group(10, 0, 11)", map.group(10, 0, 11), 1);
        due("group(0, 0, 10)", map.group(0, 0, 10), 2);
        due("group(5, 0, 13)", map.group(5, 0, 13), NONE);
        due("group(5, 0, -1)", map.group(5, 0, -1), NONE);
        due("group(5, 2, 0)", map.group(5, 2, 0), NONE);
        due("group(5, -1, 0)", map.group(5, -1, 0), NONE);
        due("group(11, 0, 0)", map.group(11, 0, 0), NONE);
        due("group(-1, 0, 0)", map.group(-1, 0, 0), NONE);
        due("group(MOST, LEAST, 0)", map.group(MOST, LEAST, 0), NONE);
        due("group(0, 0, 0) of none", new ScaleGroups().group(0, 0, 0), NONE);
        due("group(0, 0, 12) of one", line(1).group(0, 0, 12), 0);
    }

    private static void groupCentre() {
        promise = 19;
        ScaleGroups map = corner();
        // (10 times 3 and 500 times 7) by 17, (30 times 2 and 500 times 7) by 17
        due("group(0, 0, 7)", map.group(0, 0, 7), 207);
        due("group(0, 0, 8)", map.group(0, 0, 8), 209);
        ScaleGroups aside = map(200, 500, 1, 210, 400, 1, 220, 450, 1, 900, 10, 1);
        int[] due = {200, 220, 400, 500};
        for (int what = 3; what <= 6; what++) {
            due("group(3, 0, " + what + ")", aside.group(3, 0, what), due[what - 3]);
        }
        due("group(10, 0, 5)", aside.group(10, 0, 5), 500);
        due("group(10, 1, 9) of the least WEIGHT", aside.group(10, 1, 9), 1);
        due("group(10, 0, 11) of two", line(7, 8).group(10, 0, 11), 1);
        ScaleGroups like = map(0, 0, 4, 1, 0, 9, 2, 0, 9);
        due("group(0, 0, 9), of like WEIGHTS the least", like.group(0, 0, 9), 1);
        ScaleGroups chain = line(0, 10, 20, 30);
        due("group(6, 0, 1)", chain.group(6, 0, 1), 4);
        due("group(6, 0, 12)", chain.group(6, 0, 12), 900);
        // Of two GROUPS of z 5 the second was made first.
        ScaleGroups two = line(0, 30, 500, 510);
        due("group(5, 0, 10)", two.group(5, 0, 10), 1);
        due("group(5, 1, 10)", two.group(5, 1, 10), 0);
        due("group(5, 1, 0)", two.group(5, 1, 0), 2);
    }

    private static void member() {
        promise = 20;
        ScaleGroups map = corner();
        due("member(6, 0, 0)", map.member(6, 0, 0), 0);
        due("member(6, 0, 1)", map.member(6, 0, 1), 2);
        due("member(6, 0, 2)", map.member(6, 0, 2), NONE);
        due("member(6, 1, 0)", map.member(6, 1, 0), 1);
        due("member(6, 2, 0)", map.member(6, 2, 0), 3);
        due("member(6, 3, 0)", map.member(6, 3, 0), NONE);
        due("member(6, 0, -1)", map.member(6, 0, -1), NONE);
        due("member(6, -1, 0)", map.member(6, -1, 0), NONE);
        due("member(11, 0, 0)", map.member(11, 0, 0), NONE);
        due("member(0, 0, 3)", map.member(0, 0, 3), 3);
        due("member(0, 0, 0) of none", new ScaleGroups().member(0, 0, 0), NONE);
    }

    private static void splits() {
        promise = 21;
        ScaleGroups map = corner();
        due("splits(5, 0, 0)", map.splits(5, 0, 0), 0);
        due("splits(5, 0, 1)", map.splits(5, 0, 1), 1);
        due("splits(5, 0, 2)", map.splits(5, 0, 2), NONE);
        due("splits(5, 1, 0)", map.splits(5, 1, 0), 2);
        due("splits(6, 0, 0)", map.splits(6, 0, 0), 0);
        due("splits(6, 0, 1)", map.splits(6, 0, 1), 2);
        due("splits(6, 1, 0)", map.splits(6, 1, 0), 1);
        due("splits(5, 2, 0)", map.splits(5, 2, 0), NONE);
        due("splits(5, 0, -1)", map.splits(5, 0, -1), NONE);
        due("splits(5, -1, 0)", map.splits(5, -1, 0), NONE);
        due("splits(10, 0, 0)", map.splits(10, 0, 0), NONE);
        due("splits(9, 3, 0)", map.splits(9, 3, 0), 3);
        due("splits(-1, 0, 0)", map.splits(-1, 0, 0), NONE);
        due("splits(11, 0, 0)", map.splits(11, 0, 0), NONE);
        due("splits(0, 0, 0) of none", new ScaleGroups().splits(0, 0, 0), NONE);
    }

    private static void window() {
        promise = 22;
        ScaleGroups map = corner();
        int[] whole = {2, 17, 4, 17};
        // CENTRES of z 1 are 3, 6 and 500, 500.
        int[] small = {1, 10, 1, 5};
        int[] bySides = {0, 0, 2, 7};
        for (int what = 0; what < 4; what++) {
            due("window(1, whole, " + what + ")", map.window(1, 0, 1023, 0, 1023, what), whole[what]);
            due("window(1, any, " + what + ")", map.window(1, LEAST, MOST, LEAST, MOST, what), whole[what]);
            due("window(1, 0, 3, 0, 6, " + what + ")", map.window(1, 0, 3, 0, 6, what), small[what]);
            due("window(1, 0, 2, 0, 30, " + what + ")", map.window(1, 0, 2, 0, 30, what), bySides[what]);
            due("window(1, 4, 3, 0, 9, " + what + ")", map.window(1, 4, 3, 0, 9, what), 0);
            due("window(1, 0, 9, 7, 6, " + what + ")", map.window(1, 0, 9, 7, 6, what), 0);
            due("window(0, none) of none", new ScaleGroups().window(0, 0, 1023, 0, 1023, what), 0);
        }
        due("window(1, 5, 1023, 0, 1023, 2)", map.window(1, 5, 1023, 0, 1023, 2), 2);
        due("window(1, 0, 499, 0, 1023, 2)", map.window(1, 0, 499, 0, 1023, 2), 3);
        due("window(1, 0, 1023, 20, 1023, 2)", map.window(1, 0, 1023, 20, 1023, 2), 2);
        due("window(1, 0, 1023, 0, 20, 2)", map.window(1, 0, 1023, 0, 20, 2), 2);
        due("window(1, 10, 10, 0, 0, 3)", map.window(1, 10, 10, 0, 0, 3), 3);
        due("window(1, 11, 499, 0, 499, 3)", map.window(1, 11, 499, 0, 499, 3), 0);
        // What a scale of more GROUPS left behind is not in it.
        due("groupOf(10, 3)", map.groupOf(10, 3), 3);
        due("window(0, whole, 0)", map.window(0, 0, 1023, 0, 1023, 0), 1);
        due("window(0, whole, 1)", map.window(0, 0, 1023, 0, 1023, 1), 17);
        due("window(1, 3, 3, 6, 6, 0)", map.window(1, 3, 3, 6, 6, 0), 1);
        due("window(1, 4, 9, 0, 9, 0)", map.window(1, 4, 9, 0, 9, 0), 0);
        due("window(1, 0, 9, 0, 5, 0)", map.window(1, 0, 9, 0, 5, 0), 0);
        due("window(1, 0, 9, 7, 9, 0)", map.window(1, 0, 9, 7, 9, 0), 0);
        due("window(1, whole, 4)", map.window(1, 0, 1023, 0, 1023, 4), NONE);
        due("window(1, whole, -1)", map.window(1, 0, 1023, 0, 1023, -1), NONE);
        due("window(11, whole, 0)", map.window(11, 0, 1023, 0, 1023, 0), NONE);
        due("window(-1, whole, 2)", map.window(-1, 0, 1023, 0, 1023, 2), NONE);
        due("window(1, 4, 3, .., 4)", map.window(1, 4, 3, 0, 9, 4), NONE);
    }

    private static void top() {
        promise = 23;
        ScaleGroups map = corner();
        // GROUPS of z 6: 0 of 8, 1 of 2, 2 of 7.
        due("top(6, whole, 0)", map.top(6, 0, 1023, 0, 1023, 0), 0);
        due("top(6, whole, 1)", map.top(6, 0, 1023, 0, 1023, 1), 2);
        due("top(6, whole, 2)", map.top(6, 0, 1023, 0, 1023, 2), 1);
        due("top(6, whole, 3)", map.top(6, 0, 1023, 0, 1023, 3), NONE);
        due("top(6, whole, -1)", map.top(6, 0, 1023, 0, 1023, -1), NONE);
        due("top(6, without the first, 0)", map.top(6, 0, 1023, 1, 1023, 0), 2);
        due("top(6, without the first, 1)", map.top(6, 0, 1023, 1, 1023, 1), 1);
        due("top(6, none, 0)", map.top(6, 5, 4, 0, 1023, 0), NONE);
        due("top(6, just a CENTRE, 0)", map.top(6, 0, 0, 30, 30, 0), 1);
        due("top(11, whole, 0)", map.top(11, 0, 1023, 0, 1023, 0), NONE);
        due("top(-1, whole, 0)", map.top(-1, 0, 1023, 0, 1023, 0), NONE);
        map.weigh(3, 8);
        due("top(6, whole, 0) of like ones", map.top(6, 0, 1023, 0, 1023, 0), 0);
        map.weigh(3, 9);
        due("top(6, whole, 0)", map.top(6, 0, 1023, 0, 1023, 0), 2);
        due("top of none", new ScaleGroups().top(0, 0, 1023, 0, 1023, 0), NONE);
    }

    private static void filled() {
        promise = 24;
        ScaleGroups map = corner();
        due("filled(0, NONE)", map.filled(0, NONE), 1);
        due("filled(0, 0)", map.filled(0, 0), 0);
        due("filled(2, NONE)", map.filled(2, NONE), 2);
        due("filled(2, 1)", map.filled(2, 1), 1025);
        due("filled(6, NONE)", map.filled(6, NONE), 3);
        due("filled(6, 0)", map.filled(6, 0), 0);
        due("filled(6, 1)", map.filled(6, 1), 1024);
        due("filled(6, 2)", map.filled(6, 2), 31 * 1024 + 31);
        due("filled(6, 3)", map.filled(6, 3), NONE);
        due("filled(6, -2)", map.filled(6, -2), NONE);
        due("filled(6, LEAST)", map.filled(6, LEAST), NONE);
        due("filled(10, 3)", map.filled(10, 3), 500 * 1024 + 500);
        due("filled(10, 1)", map.filled(10, 1), 10);
        due("filled(11, NONE)", map.filled(11, NONE), NONE);
        due("filled(-1, 0)", map.filled(-1, 0), NONE);
        due("filled(0, NONE) of none", new ScaleGroups().filled(0, NONE), 0);
        due("filled(0, 0) of none", new ScaleGroups().filled(0, 0), NONE);
        due("filled(1, 0) at a TILE's edge", line(512).filled(1, 0), 1);
        due("filled(1, 0) ahead of it", line(511).filled(1, 0), 0);
    }

    private static void densest() {
        promise = 25;
        ScaleGroups map = corner();
        int[][] due = {{0, 0, 17, 4}, {0, 0, 10, 3}, {0, 0, 8, 2}, {500, 500, 7, 1}};
        int[] zooms = {0, 5, 6, 10};
        for (int i = 0; i < 4; i++) {
            for (int what = 0; what < 4; what++) {
                due("densest(" + zooms[i] + ", " + what + ")", map.densest(zooms[i], what), due[i][what]);
            }
        }
        due("densest(0, 4)", map.densest(0, 4), NONE);
        due("densest(0, -1)", map.densest(0, -1), NONE);
        due("densest(11, 0)", map.densest(11, 0), NONE);
        due("densest(-1, 0)", map.densest(-1, 0), NONE);
        due("densest(0, 0) of none", new ScaleGroups().densest(0, 0), NONE);
        // A square has as many places a side as a TILE: 16 at z 6.
        due("densest(6, 3), its side wide", line(0, 16).densest(6, 3), 1);
        due("densest(6, 3), less wide", line(0, 15).densest(6, 3), 2);
        // Its least x and y may be those of two POINTS: here 10 and 25.
        ScaleGroups two = map(10, 33, 5, 20, 25, 5);
        due("densest(6, 0)", two.densest(6, 0), 10);
        due("densest(6, 1)", two.densest(6, 1), 25);
        due("densest(6, 3)", two.densest(6, 3), 2);
        due("densest(10, 0) of the least WEIGHT", line(5).densest(10, 0), 5);
        due("densest(10, 2) of the least WEIGHT", line(5).densest(10, 2), 1);
        due("densest(10, 2), y the greater", map(5, 900, 1).densest(10, 2), 1);
        due("densest(6, 2)", two.densest(6, 2), 10);
        // Of several the least x, then y.
        ScaleGroups like = map(100, 300, 4, 300, 100, 4, 100, 600, 4);
        due("densest(9, 0) of like ones", like.densest(9, 0), 100);
        due("densest(9, 1) of like ones", like.densest(9, 1), 300);
    }

    private static void cover() {
        promise = 26;
        ScaleGroups map = corner();
        due("cover(0, 0)", map.cover(0, 0), 1);
        due("cover(1, 0)", map.cover(1, 0), 1);
        due("cover(6, 0)", map.cover(6, 0), 1);
        due("cover(1, 1)", map.cover(1, 1), 1);
        due("cover(1, 2)", map.cover(1, 2), NONE);
        due("cover(1, -1)", map.cover(1, -1), NONE);
        due("cover(11, 0)", map.cover(11, 0), NONE);
        due("cover(-1, 0)", map.cover(-1, 0), NONE);
        due("cover(0, 0) of none", new ScaleGroups().cover(0, 0), NONE);
        due("cover(10, 0) of one", line(9).cover(10, 0), 1);
        // 511, 0 and 512, 0 are side by side, but in TILES of z 1 of their own; 0, 0 is in that of the first.
        ScaleGroups edge = map(511, 0, 1, 512, 0, 1, 0, 0, 1, 1023, 1023, 1);
        due("cover(10, 1)", edge.cover(10, 1), 2);
        due("cover(10, 0)", edge.cover(10, 0), 1);
        // A TILE of z 8 has a stranger, two of z 9 have none; with a nearer one it is one of z 9 and one of z 10.
        ScaleGroups strange = map(0, 0, 1, 0, 1, 1, 0, 2, 1);
        due("cover(10, 0) without a stranger", strange.cover(10, 0), 1);
        strange.add(2, 2, 1);
        due("cover(10, 0) with a stranger", strange.cover(10, 0), 2);
        due("cover(10, 1) of the stranger", strange.cover(10, 1), 1);
        strange.add(1, 3, 1);
        due("cover(10, 0) with a nearer one", strange.cover(10, 0), 2);
        // 1, 0 alone in its TILE of z 10, as a stranger is in that of z 9; 2, 0 and 3, 0 in one of z 9.
        ScaleGroups steps = map(1, 0, 1, 2, 0, 1, 3, 0, 1, 0, 1, 1, 3, 2, 1, 2, 2, 1);
        due("cover(10, 1)", steps.cover(10, 1), 2);
    }

    private static void outline() {
        promise = 27;
        ScaleGroups map = corner();
        int[][] due = {{0, 2, 3, 1}, {0, 2, 1}};
        for (int z = 0; z < 2; z++) {
            due("outline(" + z + ", 0, NONE)", map.outline(z, 0, NONE), due[z].length);
            for (int i = 0; i < due[z].length; i++) {
                due("outline(" + z + ", 0, " + i + ")", map.outline(z, 0, i), due[z][i]);
            }
        }
        due("outline(1, 0, 3)", map.outline(1, 0, 3), NONE);
        due("outline(1, 0, -2)", map.outline(1, 0, -2), NONE);
        due("outline(1, 1, NONE) of one POINT", map.outline(1, 1, NONE), 1);
        due("outline(1, 1, 0) of one POINT", map.outline(1, 1, 0), 3);
        due("outline(1, 2, NONE)", map.outline(1, 2, NONE), NONE);
        due("outline(11, 0, NONE)", map.outline(11, 0, NONE), NONE);
        due("outline(-1, 0, 0)", map.outline(-1, 0, 0), NONE);
        due("outline(0, 0, NONE) of none", new ScaleGroups().outline(0, 0, NONE), NONE);
        ScaleGroups diagonal = map(0, 0, 1, 10, 10, 1, 20, 20, 1);
        due("outline(0, 0, NONE) of a line", diagonal.outline(0, 0, NONE), 2);
        due("outline(0, 0, 0) of a line", diagonal.outline(0, 0, 0), 0);
        due("outline(0, 0, 1) of a line", diagonal.outline(0, 0, 1), 2);
        due("outline(0, 0, 2) of a line", diagonal.outline(0, 0, 2), NONE);
        ScaleGroups pentagon = pentagon();
        int[] round = {0, 2, 5, 4, 1};
        due("outline(0, 0, NONE) of five corners", pentagon.outline(0, 0, NONE), 5);
        for (int i = 0; i < 5; i++) {
            due("outline(0, 0, " + i + ") of five corners", pentagon.outline(0, 0, i), round[i]);
        }
        due("outline(0, 0, NONE) of the least", map(0, 0, 1, 1, 0, 1, 0, 1, 1).outline(0, 0, NONE), 3);
        // A square with POINTS on its edges and within: those are no corners.
        ScaleGroups square = map(0, 0, 1, 0, 10, 1, 0, 20, 1, 10, 0, 1, 10, 10, 1, 10, 20, 1, 20, 0, 1, 20, 10, 1,
                20, 20, 1);
        int[] corners = {0, 6, 8, 2};
        due("outline(0, 0, NONE) of a square", square.outline(0, 0, NONE), 4);
        for (int i = 0; i < 4; i++) {
            due("outline(0, 0, " + i + ") of a square", square.outline(0, 0, i), corners[i]);
        }
    }

    private static void area() {
        promise = 28;
        ScaleGroups map = corner();
        due("area(0, 0)", map.area(0, 0), 20000);
        due("area(1, 0)", map.area(1, 0), 300);
        due("area(1, 1) of one POINT", map.area(1, 1), 0);
        due("area(6, 0) of two", map.area(6, 0), 0);
        due("area(1, 2)", map.area(1, 2), NONE);
        due("area(1, -1)", map.area(1, -1), NONE);
        due("area(11, 0)", map.area(11, 0), NONE);
        due("area(0, 0) of none", new ScaleGroups().area(0, 0), NONE);
        due("area(0, 0) of five corners", pentagon().area(0, 0), 18300);
        due("area(0, 0) of the least", map(0, 0, 1, 1, 0, 1, 0, 1, 1).area(0, 0), 1);
        due("area(0, 0) of a line", map(0, 0, 1, 10, 10, 1, 20, 20, 1).area(0, 0), 0);
        ScaleGroups whole = map(0, 0, 1, 0, 1023, 1, 1023, 0, 1, 1023, 1023, 1);
        due("area(0, 0) of the whole map", whole.area(0, 0), 2 * 1023 * 1023);
    }

    private static void drift() {
        promise = 29;
        ScaleGroups map = corner();
        // 3, 6 and 500, 500 from 207, 209
        due("drift(0)", map.drift(0), 204 + 293);
        due("drift(1)", map.drift(1), 0);
        // 3, 0 and 0, 30 from 3, 6
        due("drift(5)", map.drift(5), 6 + 24);
        // 0, 0 and 10, 0 from 3, 0
        due("drift(6)", map.drift(6), 3 + 7);
        due("drift(9)", map.drift(9), 0);
        due("drift(10)", map.drift(10), NONE);
        due("drift(-1)", map.drift(-1), NONE);
        due("drift(MOST)", map.drift(MOST), NONE);
        due("drift(9) of two side by side", line(0, 2).drift(9), 2);
        due("drift(0) of none", new ScaleGroups().drift(0), 0);
        due("drift(0) of one", line(4).drift(0), 0);
    }

    private static void tile() {
        promise = 30;
        ScaleGroups map = corner();
        int[] due = {4, 17, 2, 9};
        for (int what = 0; what < 4; what++) {
            due("tile(1, 0, 0, " + what + ")", map.tile(1, 0, 0, what), due[what]);
            due("tile(1, 1, 1, " + what + ")", map.tile(1, 1, 1, what), 0);
        }
        due("tile(0, 0, 0, 3)", map.tile(0, 0, 0, 3), 1);
        due("tile(2, 1, 1, 0)", map.tile(2, 1, 1, 0), 1);
        due("tile(2, 1, 1, 1)", map.tile(2, 1, 1, 1), 7);
        due("tile(10, 10, 0, 0)", map.tile(10, 10, 0, 0), 1);
        due("tile(10, 10, 0, 3)", map.tile(10, 10, 0, 3), 0);
        due("tile(10, 1023, 1023, 0)", map.tile(10, 1023, 1023, 0), 0);
        due("tile(10, 1024, 0, 0)", map.tile(10, 1024, 0, 0), NONE);
        due("tile(1, 2, 0, 0)", map.tile(1, 2, 0, 0), NONE);
        due("tile(1, 0, 2, 0)", map.tile(1, 0, 2, 0), NONE);
        due("tile(1, -1, 0, 0)", map.tile(1, -1, 0, 0), NONE);
        due("tile(1, 0, LEAST, 0)", map.tile(1, 0, LEAST, 0), NONE);
        due("tile(1, 0, 0, 4)", map.tile(1, 0, 0, 4), NONE);
        due("tile(1, 0, 0, -1)", map.tile(1, 0, 0, -1), NONE);
        due("tile(11, 0, 0, 0)", map.tile(11, 0, 0, 0), NONE);
        due("tile(-1, 0, 0, 0)", map.tile(-1, 0, 0, 0), NONE);
        due("tile(0, 0, 0, 0) of none", new ScaleGroups().tile(0, 0, 0, 0), 0);
        // CENTRES at both edges of a TILE of one place.
        int[][] beside = {{10, 0, 1}, {9, 0, 0}, {11, 0, 0}, {0, 30, 1}, {0, 29, 0}, {0, 31, 0}};
        for (int[] place : beside) {
            due("tile(10, " + place[0] + ", " + place[1] + ", 2)", map.tile(10, place[0], place[1], 2), place[2]);
        }
        due("tile(6, 0, 0, 3), with one beyond its edge", map(0, 0, 1, 0, 16, 1).tile(6, 0, 0, 3), 1);
        due("tile(1, 0, 0, 3), the greater x", line(256).tile(1, 0, 0, 3), 2);
        due("tile(1, 0, 0, 3), the greater y", map(0, 256, 1).tile(1, 0, 0, 3), 4);
        due("tile(1, 0, 0, 0), beyond its edge", line(512).tile(1, 0, 0, 0), 0);
        due("tile(1, 1, 0, 0), at its edge", line(512).tile(1, 1, 0, 0), 1);
        // CENTRE of 500, 0 and 516, 0 is at 508, or with more WEIGHT of the other at 514.
        ScaleGroups two = line(500, 516);
        due("tile(1, 0, 0, 2)", two.tile(1, 0, 0, 2), 1);
        due("tile(1, 1, 0, 2)", two.tile(1, 1, 0, 2), 0);
        two.weigh(1, 9);
        due("tile(1, 0, 0, 2)", two.tile(1, 0, 0, 2), 0);
        due("tile(1, 1, 0, 2)", two.tile(1, 1, 0, 2), 1);
    }

    private static void part() {
        promise = 31;
        ScaleGroups map = corner();
        int[][] due = {{0, 0, 0, 0}, {0, 0, 0, 3}, {0, 1, 0, 3}, {0, 1, 2, 3}};
        for (int k = 1; k <= 4; k++) {
            for (int p = 0; p < 4; p++) {
                due("part(" + k + ", " + p + ")", map.part(k, p), due[k - 1][p]);
            }
        }
        due("part(0, 0)", map.part(0, 0), NONE);
        due("part(5, 0)", map.part(5, 0), NONE);
        due("part(LEAST, 0)", map.part(LEAST, 0), NONE);
        due("part(1, 4)", map.part(1, 4), NONE);
        due("part(1, -1)", map.part(1, -1), NONE);
        due("part(1, 0) of one", line(1).part(1, 0), 0);
        due("part(1, 0) of none", new ScaleGroups().part(1, 0), NONE);
    }

    private static void clearest() {
        promise = 32;
        due("clearest()", corner().clearest(), 2);
        due("clearest() of none", new ScaleGroups().clearest(), NONE);
        due("clearest() of one", line(1).clearest(), NONE);
        due("clearest() of two", line(1, 5).clearest(), NONE);
        due("clearest() of three", line(1, 5, 6).clearest(), 2);
        due("clearest() of three evenly", line(1, 2, 3).clearest(), 2);
        // ROOTS 1, 100, 100
        due("clearest() of a near two", line(0, 1, 101, 201).clearest(), 3);
        // ROOTS 10, 20, 30
        due("clearest() of like ones", line(0, 10, 30, 60).clearest(), 2);
        // What a POINT that went left behind does not matter.
        ScaleGroups gone = line(0, 10, 25, 50, 1000);
        due("clearest()", gone.clearest(), 2);
        gone.take(4);
        due("clearest() after take", gone.clearest(), 2);
        gone.take(3);
        due("clearest() after take", gone.clearest(), 2);
        gone.take(2);
        due("clearest() after take", gone.clearest(), NONE);
        // ROOTS 10, 40, 50, 60: 30, 10, 10
        due("clearest()", line(0, 10, 50, 100, 160).clearest(), 4);
    }

    private static void best() {
        promise = 33;
        ScaleGroups map = corner();
        // JOIN 1 lasts 6560, POINT 3 7 times 686.
        due("best(0)", map.best(0), 6560 + 4802);
        due("best(1)", map.best(1), 2);
        due("best(10)", map.best(10), 101);
        due("best(11)", map.best(11), 3);
        due("best(12)", map.best(12), NONE);
        due("best(2)", map.best(2), NONE);
        due("best(9)", map.best(9), NONE);
        due("best(-1)", map.best(-1), NONE);
        due("best(LEAST)", map.best(LEAST), NONE);
        due("best(MOST)", map.best(MOST), NONE);
        ScaleGroups none = new ScaleGroups();
        due("best(0) of none", none.best(0), 0);
        due("best(1) of none", none.best(1), 0);
        due("best(10) of none", none.best(10), NONE);
        ScaleGroups one = line(7);
        due("best(0) of one", one.best(0), 0);
        due("best(1) of one", one.best(1), 1);
        due("best(10) of one", one.best(10), 0);
        due("best(11) of one", one.best(11), NONE);
    }

    private static void bestOfSeveral() {
        promise = 33;
        // ROOTS 10 and 20: JOIN 0 lasts 2 times 10, as do its two POINTS together: the JOIN rather than these.
        ScaleGroups map = line(0, 10, 30);
        due("best(0)", map.best(0), 20 + 20);
        due("best(1)", map.best(1), 2);
        due("best(10)", map.best(10), 100);
        due("best(11)", map.best(11), 2);
        // ROOTS 10 and 19: its POINTS are better than JOIN 0.
        ScaleGroups nearer = line(0, 10, 29);
        due("best(0)", nearer.best(0), 10 + 10 + 19);
        due("best(1)", nearer.best(1), 3);
        due("best(11)", nearer.best(11), 1);
        // ROOTS 10 and 30: after the far one went, as if it had never been.
        ScaleGroups gone = line(0, 10, 40);
        due("best(1)", gone.best(1), 2);
        gone.take(2);
        due("best(0) after take", gone.best(0), 20);
        due("best(1) after take", gone.best(1), 2);
        due("best(10) after take", gone.best(10), 0);
        due("best(11) after take", gone.best(11), 1);
        // NODES by their least POINTS: a JOIN may be between POINTS, or the last.
        ScaleGroups far = line(0, 500, 501);
        due("best(10)", far.best(10), 0);
        due("best(11)", far.best(11), 100);
        due("best(12)", far.best(12), NONE);
        // The last JOIN lasts 0, less than any two POINTS.
        ScaleGroups two = line(0, 1);
        due("best(0) of two", two.best(0), 2);
        due("best(1) of two", two.best(1), 2);
    }

    private static void shown() {
        promise = 34;
        ScaleGroups map = corner();
        due("shown(0)", map.shown(0), 1);
        due("shown(1)", map.shown(1), 2);
        due("shown(6)", map.shown(6), 3);
        due("shown(10)", map.shown(10), 4);
        // CENTRES of z 1 are 497 from one another by x, less by y.
        map.size(992);
        due("shown(1), farther than 496", map.shown(1), 2);
        map.size(993);
        due("shown(1), farther than 496 and a half", map.shown(1), 2);
        map.size(994);
        due("shown(1), just as far as 497", map.shown(1), 1);
        due("shown(-1)", map.shown(-1), NONE);
        due("shown(11)", map.shown(11), NONE);
        due("shown(LEAST)", map.shown(LEAST), NONE);
        due("shown(0) of none", new ScaleGroups().shown(0), 0);
        due("shown(0) of one", line(1).shown(0), 1);
        // By x or by y, the greater: 40 and 20 at z 5, whose RADIUS is 32 and SIZE 31 at most.
        ScaleGroups wide = map(300, 100, 1, 340, 120, 1);
        wide.size(999);
        due("shown(5), farther by x", wide.shown(5), 2);
        ScaleGroups high = map(300, 100, 1, 320, 140, 1);
        high.size(999);
        due("shown(5), farther by y", high.shown(5), 2);
        ScaleGroups slant = map(300, 100, 1, 330, 130, 1);
        slant.size(999);
        due("shown(5), by neither", slant.shown(5), 1);
        // Of a hidden one's place nothing is kept free: A hides B, B does not hide C.
        ScaleGroups row = map(0, 0, 9, 60, 60, 5, 110, 110, 1);
        row.size(999);
        due("shown(4)", row.shown(4), 2);
    }

    private static void label() {
        promise = 35;
        ScaleGroups map = corner();
        // GROUPS of z 6 by WEIGHT: 0 of 8, 2 of 7, 1 of 2.
        int[][] due = {{0, 8, 0}, {2, 7, 0}, {1, 2, 0}};
        for (int i = 0; i < 3; i++) {
            for (int what = 0; what < 3; what++) {
                due("label(6, " + i + ", " + what + ")", map.label(6, i, what), due[i][what]);
            }
        }
        due("label(6, 3, 0)", map.label(6, 3, 0), NONE);
        due("label(6, -1, 0)", map.label(6, -1, 0), NONE);
        due("label(6, 0, 3)", map.label(6, 0, 3), NONE);
        due("label(6, 0, -1)", map.label(6, 0, -1), NONE);
        due("label(11, 0, 0)", map.label(11, 0, 0), NONE);
        due("label(-1, 0, 0)", map.label(-1, 0, 0), NONE);
        due("label(0, 0, 0) of none", new ScaleGroups().label(0, 0, 0), NONE);
        map.size(999);
        due("label(1, 0, 0)", map.label(1, 0, 0), 0);
        due("label(1, 0, 1)", map.label(1, 0, 1), 17);
        due("label(1, 0, 2)", map.label(1, 0, 2), 1);
        due("label(1, 1, 0)", map.label(1, 1, 0), NONE);
        map.weigh(3, 11);
        due("label(1, 0, 0) of the heavier", map.label(1, 0, 0), 1);
        due("label(1, 0, 1)", map.label(1, 0, 1), 21);
        // Of like WEIGHTS the least number is ahead.
        map.weigh(3, 10);
        due("label(1, 0, 0) of like ones", map.label(1, 0, 0), 0);
    }

    private static void counted() {
        promise = 36;
        ScaleGroups map = corner();
        due("counted(1, 1)", map.counted(1, 1), 1);
        map.size(999);
        due("counted(1, 0)", map.counted(1, 0), 0);
        due("counted(1, 1)", map.counted(1, 1), 0);
        due("counted(1, 2)", map.counted(1, 2), NONE);
        due("counted(1, -1)", map.counted(1, -1), NONE);
        due("counted(11, 0)", map.counted(11, 0), NONE);
        due("counted(-1, 0)", map.counted(-1, 0), NONE);
        due("counted(0, 0) of none", new ScaleGroups().counted(0, 0), NONE);
        // At z 4 SIZE is 62: the middle one is 60 from the first and 50 from the last, which is SHOWN after the first.
        ScaleGroups row = map(0, 0, 9, 60, 60, 1, 110, 110, 5);
        row.size(999);
        due("counted(4, 1), the nearest", row.counted(4, 1), 2);
        due("counted(4, 2)", row.counted(4, 2), 2);
        due("label(4, 1, 1)", row.label(4, 1, 1), 6);
        ScaleGroups hidden = map(0, 0, 1, 60, 60, 5, 200, 200, 9);
        hidden.size(999);
        due("counted(4, 0), hidden by the second SHOWN", hidden.counted(4, 0), 1);
        // As near to both: the first SHOWN.
        ScaleGroups even = map(0, 0, 8, 60, 60, 1, 120, 120, 9);
        even.size(999);
        due("counted(4, 1), of like ones", even.counted(4, 1), 2);
        even.weigh(0, 9);
        due("counted(4, 1), of like ones", even.counted(4, 1), 0);
    }

    private static void repaired() {
        promise = 37;
        ScaleGroups map = new ScaleGroups();
        for (int what = 0; what < 4; what++) {
            due("repaired(" + what + ") ahead of any", map.repaired(what), 0);
        }
        due("repaired(4)", map.repaired(4), NONE - 1);
        due("repaired(-1)", map.repaired(-1), NONE - 1);
        ScaleGroups corner = corner();
        // The last add, of 0, 30: a JOIN of 490100 made way for two, of 900 and 470900; that of 100 stays the first.
        int[] due = {2, 1, 900 + 470900 - 490100, 1};
        for (int what = 0; what < 4; what++) {
            due("repaired(" + what + ")", corner.repaired(what), due[what]);
        }
        corner.add(0, 0, 1);
        corner.take(4);
        corner.scatter(0);
        corner.weigh(0, 9);
        due("repaired(0), as refused calls repair nothing", corner.repaired(0), 2);
        due("repaired(MOST)", corner.repaired(MOST), NONE - 1);
        corner.take(1);
        int[] back = {1, 2, 490100 - 900 - 470900, 1};
        for (int what = 0; what < 4; what++) {
            due("repaired(" + what + ") after take", corner.repaired(what), back[what]);
        }
        corner.clear();
        int[] gone = {0, 2, -490100 - 100, 0};
        for (int what = 0; what < 4; what++) {
            due("repaired(" + what + ") after clear", corner.repaired(what), gone[what]);
        }
        // A JOIN that is NEW ahead of all others: none is as it was from the first on.
        ScaleGroups line = line(0, 10, 30);
        line.add(31, 0, 1);
        due("repaired(0)", line.repaired(0), 1);
        due("repaired(1)", line.repaired(1), 0);
        due("repaired(3)", line.repaired(3), 0);
        // Numbers may be others: it is by places.
        line.add(500, 0, 1);
        due("repaired(3)", line.repaired(3), 3);
        line.take(0);
        due("repaired(0)", line.repaired(0), 0);
        due("repaired(1)", line.repaired(1), 1);
        due("repaired(3)", line.repaired(3), 1);
    }

    private static void would() {
        promise = 38;
        int no = NONE - 9999999;
        ScaleGroups map = map(500, 500, 7, 10, 0, 3, 0, 0, 5);
        due("would(0, 30, 0)", map.would(0, 30, 0), 2);
        due("would(0, 30, 1)", map.would(0, 30, 1), 900 + 470900 - 490100);
        due("look(0)", map.look(0), 3);
        due("repaired(0), of the add ahead", map.repaired(0), 1);
        due("would(501, 500, 1)", map.would(501, 500, 1), 1);
        due("would(0, 30, 2)", map.would(0, 30, 2), no);
        due("would(0, 30, -1)", map.would(0, 30, -1), no);
        due("would(0, 0, 0)", map.would(0, 0, 0), no);
        due("would(-1, 0, 0)", map.would(-1, 0, 0), no);
        due("would(0, 1024, 1)", map.would(0, 1024, 1), no);
        due("would(LEAST, MOST, 0)", map.would(LEAST, MOST, 0), no);
        ScaleGroups none = new ScaleGroups();
        due("would(0, 0, 0) of none", none.would(0, 0, 0), 0);
        due("would(0, 0, 1) of none", none.would(0, 0, 1), 0);
        due("would(1023, 1023, 1) of one", line(0).would(1023, 1023, 1), 2 * 1023 * 1023);
        ScaleGroups full = new ScaleGroups();
        full.scatter(24);
        due("look(0)", full.look(0), 24);
        due("would of a full map", full.would(1, 1, 0), no);
    }

    private static void stirred() {
        promise = 39;
        ScaleGroups map = new ScaleGroups();
        due("stirred(0) ahead of any", map.stirred(0), 0);
        due("stirred(11) ahead of any", map.stirred(11), NONE);
        map = line(0, 200);
        due("stirred(0), as they were not both there", map.stirred(0), 0);
        map.add(100, 0, 1);
        // RADIUS of z 3 is 128: those 200 from one another are in one GROUP by the one between.
        due("stirred(2)", map.stirred(2), 0);
        due("stirred(3)", map.stirred(3), 1);
        due("stirred(4)", map.stirred(4), 0);
        due("stirred(-1)", map.stirred(-1), NONE);
        due("stirred(11)", map.stirred(11), NONE);
        map.take(0);
        due("stirred(3) by an end", map.stirred(3), 0);
        map.add(0, 0, 1);
        map.take(1);
        due("stirred(3) by the middle", map.stirred(3), 1);
        due("stirred(2) by the middle", map.stirred(2), 0);
        map.add(0, 0, 1);
        due("stirred(3), by a refused add too", map.stirred(3), 1);
        // Two on one side, three on the other: six pairs, whatever was asked ahead.
        ScaleGroups six = map(0, 7, 1, 50, 8, 1, 250, 9, 1, 300, 10, 1, 350, 11, 1);
        six.add(150, 9, 1);
        due("near(1023, 1023, 0)", six.near(1023, 1023, 0), 5);
        due("stirred(3)", six.stirred(3), 6);
        six.clear();
        due("stirred(3) after clear", six.stirred(3), 0);
    }

    private static void look() {
        promise = 40;
        ScaleGroups map = corner();
        map.state(77);
        int[] due = {4, 17, 64, 77, 100 + 900 + 470900, 10 + 30 + 686, 500000, 2, 1 + 5 * 2 + 3 + 4 * 4};
        for (int what = 0; what <= 8; what++) {
            due("look(" + what + ")", map.look(what), due[what]);
        }
        due("look(9)", map.look(9), NONE - 9);
        due("look(-1)", map.look(-1), NONE - 9);
        due("look(LEAST)", map.look(LEAST), NONE - 9);
        int[] none = {0, 0, 64, 0, 0, 0, 0, 0, 0};
        int[] one = {1, 1, 64, 0, 0, 0, 0, 0, 11};
        for (int what = 0; what <= 8; what++) {
            due("look(" + what + ") of none", new ScaleGroups().look(what), none[what]);
            due("look(" + what + ") of one", line(6).look(what), one[what]);
        }
        ScaleGroups star = map(50, 50, 1, 0, 50, 1, 100, 50, 1, 50, 0, 1, 50, 100, 1);
        due("look(7) of a star", star.look(7), 4);
        due("look(6) of a star", star.look(6), 10000);
        star.add(50, 201, 1);
        due("look(6) of a longer one", star.look(6), 201 * 201);
        star.take(0);
        due("look(7) of a star less one", star.look(7), 3);
        due("look(7), POINT 0's", map(0, 100, 1, 10, 60, 1, 10, 140, 1).look(7), 2);
    }

    /** 24 POINTS, 40 from one another on a line: GROUPS of z 4 (64) are one, of z 5 (32) 24. */
    private static void fullMap() {
        ScaleGroups map = new ScaleGroups();
        for (int i = 0; i < 24; i++) {
            map.add(40 * i, 0, 1);
        }
        fullMapOrder(map);
        fullMapScales(map);
    }

    private static void fullMapOrder(ScaleGroups map) {
        promise = 11;
        due("near(0, 0, 23)", map.near(0, 0, 23), 23);
        due("near(0, 0, 24)", map.near(0, 0, 24), NONE);
        promise = 12;
        due("join(22, 2)", map.join(22, 2), 23);
        due("join(22, 3)", map.join(22, 3), 24);
        due("join(23, 0)", map.join(23, 0), NONE);
        promise = 13;
        due("meets(0, 23)", map.meets(0, 23), 22);
        promise = 14;
        due("path(0, 23, NONE)", map.path(0, 23, NONE), 23);
        due("path(23, 0, 22)", map.path(23, 0, 22), 1);
        due("path(0, 23, 24)", map.path(0, 23, 24), NONE);
        promise = 15;
        due("longest(0)", map.longest(0), 920);
        due("longest(2)", map.longest(2), 23);
        promise = 31;
        due("part(24, 23)", map.part(24, 23), 23);
        due("part(2, 22)", map.part(2, 22), 0);
        due("part(25, 0)", map.part(25, 0), NONE);
        promise = 32;
        due("clearest()", map.clearest(), 2);
        promise = 33;
        due("best(0)", map.best(0), 960);
        due("best(1)", map.best(1), 24);
        due("best(33)", map.best(33), 23);
        due("best(34)", map.best(34), NONE);
        promise = 37;
        due("repaired(3)", map.repaired(3), 22);
        promise = 40;
        due("look(6)", map.look(6), 920 * 920);
        due("look(7)", map.look(7), 2);
        due("look(8)", map.look(8), 5 + 6 * 24);
    }

    private static void fullMapScales(ScaleGroups map) {
        promise = 22;
        due("window(5, whole, 0)", map.window(5, 0, 1023, 0, 1023, 0), 24);
        due("window(5, whole, 3)", map.window(5, 0, 1023, 0, 1023, 3), 24);
        promise = 23;
        due("top(5, whole, 23)", map.top(5, 0, 1023, 0, 1023, 23), 23);
        promise = 24;
        due("filled(5, NONE)", map.filled(5, NONE), 24);
        due("filled(5, 23)", map.filled(5, 23), 920 / 32);
        due("filled(5, 24)", map.filled(5, 24), NONE);
        promise = 25;
        due("densest(4, 0)", map.densest(4, 0), 0);
        due("densest(4, 2)", map.densest(4, 2), 2);
        promise = 26;
        due("cover(4, 0)", map.cover(4, 0), 1);
        promise = 27;
        due("outline(4, 0, NONE)", map.outline(4, 0, NONE), 2);
        due("outline(4, 0, 1)", map.outline(4, 0, 1), 23);
        promise = 29;
        // 40 times (11.5, 10.5, .. 0.5, twice)
        due("drift(4)", map.drift(4), 40 * 144);
        promise = 34;
        due("shown(5)", map.shown(5), 24);
        promise = 35;
        due("label(5, 23, 0)", map.label(5, 23, 0), 23);
        due("label(5, 24, 0)", map.label(5, 24, 0), NONE);
        promise = 36;
        due("counted(5, 23)", map.counted(5, 23), 23);
        promise = 39;
        // The last that came was the one at the right.
        due("stirred(4)", map.stirred(4), 0);
        map.take(12);
        due("stirred(4)", map.stirred(4), 12 * 11);
    }

    /** All the same in whatever order POINTS came, and though some came between and went. */
    private static void anyOrder() {
        promise = 2;
        int[][] points = {{3, 3, 1}, {3, 9, 2}, {9, 3, 3}, {9, 9, 4}, {6, 6, 5}, {40, 6, 6}};
        ScaleGroups first = new ScaleGroups();
        ScaleGroups other = new ScaleGroups();
        other.scatter(7);
        other.clear();
        for (int i = 0; i < points.length; i++) {
            int[] p = points[i];
            int[] q = points[points.length - 1 - i];
            first.add(p[0], p[1], p[2]);
            other.add(700 + i, 800, 9);
            other.add(q[0], q[1], q[2]);
            other.take(other.at(700 + i, 800));
        }
        for (int i = 0; i < points.length; i++) {
            for (int what = 0; what <= 5; what++) {
                due("point(" + i + ", " + what + ")", other.point(i, what), first.point(i, what));
            }
            for (int what = 0; what <= 8; what++) {
                due("join(" + i + ", " + what + ")", other.join(i, what), first.join(i, what));
            }
        }
    }
}
