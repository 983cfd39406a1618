/** Of several like ones: each sentence that says which is taken, with cases in which there are several. */
public final class Several {
    private static final int NONE = Due.NONE;
    private static final Due due = new Due("Several");

    public static void main(String[] args) {
        numbersByXThenY();
        orderByFirstThenOther();
        sidesByPair();
        firstPairOfPoint();
        nearByNumber();
        groupsByLeastPoint();
        splitsAndMembersRise();
        leastTop();
        topByNumber();
        filledByRow();
        densestByXThenY();
        densestOfStrangePlaces();
        outlineFromLeast();
        outlineOfFlatSides();
        longestByLesserEnd();
        longestByOtherEnd();
        greatestZoom();
        fewestTiles();
        leastOfPart();
        clearestByLeastK();
        bestRatherJoin();
        bestRatherUpperJoin();
        bestByLeastPoint();
        labelsByNumber();
        countedWithFirstShown();
        sameTillFirstOther();
        newBeforeAndAfterLike();
        newByEachPlace();
        notAsBeforeThat();
        mostLinks();
        due.end();
    }

    private static void numbersByXThenY() {
        due.promise(9);
        int[][] sorted = {{0, 1023}, {7, 0}, {7, 8}, {7, 9}, {7, 1023}, {8, 0}, {1023, 0}, {1023, 1}};
        int[] cameAs = {3, 7, 0, 5, 2, 6, 1, 4};
        ScaleGroups map = new ScaleGroups();
        for (int i : cameAs) {
            map.add(sorted[i][0], sorted[i][1], i + 1);
        }
        for (int i = 0; i < sorted.length; i++) {
            int point = i;
            due.row("point(" + i + ", what)", what -> map.point(point, what), 0, sorted[i][0], sorted[i][1], i + 1);
            due.is("at of the " + i + "-th", map.at(sorted[i][0], sorted[i][1]), i);
        }
        // All above the one that goes are one less.
        map.take(2);
        due.row("point(point, 2) after take", p -> map.point(p, 2), 0, 1, 2, 4, 5, 6, 7, 8, NONE);
        map.add(7, 1, 50);
        due.row("point(point, 2) after add", p -> map.point(p, 2), 0, 1, 2, 50, 4, 5, 6, 7, 8, NONE);
    }

    /** PAIRS as far APART: by the first number, though the other one is greater; of the same first by the other one. */
    private static void orderByFirstThenOther() {
        due.promise(12);
        // 0 3 and 1 2 are 25 APART.
        ScaleGroups across = Maps.of(0, 0, 1, 1, 500, 1, 4, 504, 1, 5, 0, 1);
        due.row("join(0, what)", what -> across.join(0, what), 0, 25, 0, 3, 2, 2, 0, 3, 2);
        due.row("join(1, what)", what -> across.join(1, what), 0, 25, 1, 2, 2, 2, 1, 2, 2);
        // 0 1, 0 2, 1 3, 2 3 are 64 APART: the last closes a ring.
        ScaleGroups square = Maps.of(8, 8, 1, 8, 0, 1, 0, 8, 1, 0, 0, 1);
        due.row("join(join, 1) of a square", j -> square.join(j, 1), 0, 0, 0, 1, NONE);
        due.row("join(join, 2) of a square", j -> square.join(j, 2), 0, 1, 2, 3, NONE);
        // A nearer PAIR is first, whatever its numbers.
        ScaleGroups nearer = Maps.line(0, 10, 20, 29);
        due.row("join(join, 1) of a line", j -> nearer.join(j, 1), 0, 2, 0, 1);
        due.row("join(join, 0) of a line", j -> nearer.join(j, 0), 0, 81, 100, 100);
        // PAIRS 0 1 of 50, 0 2 of 64, 1 2 of 98, which closes the ring.
        ScaleGroups three = Maps.of(0, 0, 1, 1, 7, 1, 8, 0, 1);
        due.row("join(join, 0) of three", j -> three.join(j, 0), 0, 50, 64);
        due.row("join(1, what) of three", what -> three.join(1, what), 1, 0, 2);
    }

    /** The SIDE of the PAIR's first POINT is the first, though it is made later, or has greater numbers. */
    private static void sidesByPair() {
        due.promise(12);
        ScaleGroups map = Maps.line(0, 12, 100, 110);
        // JOIN 0 of 2 and 3, JOIN 1 of 0 and 1, JOIN 2 of 1 and 2
        due.row("join(2, what)", what -> map.join(2, what), 1, 1, 2, 4, 4, 101, 100, NONE, 0);
        due.row("join(join, 7)", j -> map.join(j, 7), 0, 2, 2, NONE);
        // The part of the other POINT has the least POINT of all: 1 and 2 meet, where 2 is with 0.
        ScaleGroups bow = Maps.of(0, 20, 1, 5, 0, 1, 8, 12, 1);
        due.row("join(0, what) of a bow", what -> bow.join(0, what), 0, 128, 0, 2);
        due.row("join(1, what) of a bow", what -> bow.join(1, what), 0, 153, 1, 2, 3, 3, 1, 100);
    }

    private static void firstPairOfPoint() {
        due.promise(9);
        // The one in the middle of a cross, POINT 2: of four PAIRS that with 0.
        ScaleGroups cross = Maps.of(100, 100, 1, 90, 100, 1, 110, 100, 1, 100, 90, 1, 100, 110, 1);
        due.row("point(2, what) of a cross", what -> cross.point(2, what), 3, 0, 100, 4);
        due.row("point(point, 3) of a cross", p -> cross.point(p, 3), 0, 2, 2, 0, 2, 2);
        // PAIRS in which it is the other one are ahead of those in which it is the first one.
        ScaleGroups line = Maps.line(0, 10, 20, 30);
        due.row("point(point, 3) of a line", p -> line.point(p, 3), 0, 1, 0, 1, 2);
        // Two as far, both above it.
        ScaleGroups above = Maps.of(0, 50, 1, 30, 10, 1, 30, 90, 1);
        due.is("point(0, 3) of two above", above.point(0, 3), 1);
        due.is("point(0, 4) of two above", above.point(0, 4), 2500);
    }

    private static void nearByNumber() {
        due.promise(11);
        ScaleGroups map = Maps.of(500, 400, 1, 500, 600, 1, 400, 500, 1, 600, 500, 1, 500, 500, 1, 430, 430, 1);
        // 0 (400, 500), 1 (430, 430), 2 (500, 400), 3 (500, 500), 4 (500, 600), 5 (600, 500)
        due.row("near(500, 500, k)", k -> map.near(500, 500, k), -1, NONE, 3, 1, 0, 2, 4, 5, NONE);
        // By squares together: 100 is farther than 70 and 70.
        due.row("near(430, 500, k)", k -> map.near(430, 500, k), 0, 0, 1, 3, 2, 4, 5);
        due.row("near(500, 9999, k)", k -> map.near(500, 9999, k), 0, 4, 3, 0, 5, 1, 2);
    }

    /** GROUPS are numbered by their least POINTS, not by when they were made. */
    private static void groupsByLeastPoint() {
        // By x: 0 (0, 0), 1 (5, 900), 2 (9, 0), 3 (12, 900), 4 (500, 500)
        ScaleGroups map = Maps.of(0, 0, 1, 9, 0, 1, 5, 900, 1, 12, 900, 1, 500, 500, 1);
        due.promise(18);
        due.row("groupOf(5, point)", p -> map.groupOf(5, p), 0, 0, 1, 0, 1, 2, NONE);
        due.promise(19);
        // The second was made first: 49 is less than 81.
        due.row("group(5, group, 10)", g -> map.group(5, g, 10), 0, 1, 0, NONE, NONE);
        due.row("group(5, group, 0)", g -> map.group(5, g, 0), 0, 0, 1, 4, NONE);
        due.row("group(5, group, 12)", g -> map.group(5, g, 12), 0, 81, 49, 0, NONE);
    }

    private static void splitsAndMembersRise() {
        ScaleGroups map = Maps.of(0, 0, 1, 9, 0, 1, 5, 20, 1, 12, 20, 1, 500, 500, 1);
        // By x: 0 (0, 0), 1 (5, 20), 2 (9, 0), 3 (12, 20), 4 (500, 500). RADIUS of z 5 is 32, of z 6 is 16.
        due.promise(20);
        due.row("member(5, 0, i)", i -> map.member(5, 0, i), -1, NONE, 0, 1, 2, 3, NONE);
        due.row("member(6, 1, i)", i -> map.member(6, 1, i), -1, NONE, 1, 3, NONE);
        due.promise(21);
        due.row("splits(5, 0, i)", i -> map.splits(5, 0, i), -1, NONE, 0, 1, NONE);
        due.row("splits(5, 1, i)", i -> map.splits(5, 1, i), -1, NONE, 2, NONE);
        due.row("splits(6, 1, i)", i -> map.splits(6, 1, i), -1, NONE, 1, NONE);
        due.promise(19);
        due.row("group(5, group, 11)", g -> map.group(5, g, 11), 0, 2, 1);
    }

    private static void leastTop() {
        due.promise(19);
        ScaleGroups map = Maps.of(0, 0, 8, 1, 0, 9, 2, 0, 3, 3, 0, 9, 4, 0, 9);
        due.is("group(5, 0, 9) of three like ones", map.group(5, 0, 9), 1);
        map.weigh(0, 9);
        due.is("group(5, 0, 9) of four like ones", map.group(5, 0, 9), 0);
        map.weigh(4, 10);
        due.is("group(5, 0, 9) of one heavier", map.group(5, 0, 9), 4);
        due.is("group(5, 0, 9) of all alike", Maps.line(1, 2, 3, 4).group(5, 0, 9), 0);
        // Each GROUP has its own.
        ScaleGroups two = Maps.of(0, 0, 9, 1, 0, 9, 900, 0, 5, 901, 0, 5);
        due.row("group(5, group, 9)", g -> two.group(5, g, 9), 0, 0, 2, NONE);
    }

    private static void topByNumber() {
        due.promise(23);
        ScaleGroups map = Maps.of(0, 0, 5, 100, 0, 9, 200, 0, 5, 300, 0, 9, 400, 0, 5);
        due.row("top(5, whole, i)", i -> map.top(5, 0, 1023, 0, 1023, i), -1, NONE, 1, 3, 0, 2, 4, NONE);
        due.row("top(5, from 200, i)", i -> map.top(5, 200, 1023, 0, 1023, i), -1, NONE, 3, 2, 4, NONE);
        // By the WEIGHT of the GROUP, not of its POINTS: two of 5 are more than one of 9.
        map.add(401, 0, 5);
        due.row("top(5, whole, i)", i -> map.top(5, 0, 1023, 0, 1023, i), -1, NONE, 4, 1, 3, 0, 2, NONE);
    }

    private static void filledByRow() {
        due.promise(24);
        // By ty, then tx: (1, 0), (3, 0), (0, 1), (2, 1), (0, 3) of z 2, whose TILES have 256 a side.
        ScaleGroups map = Maps.of(0, 900, 1, 700, 500, 1, 10, 300, 1, 300, 200, 1, 1000, 0, 1, 500, 255, 1, 511, 0, 1);
        due.row("filled(2, i)", i -> map.filled(2, i), -1, 5, 1, 3, 1024, 1026, 3072, NONE);
    }

    private static void densestByXThenY() {
        due.promise(25);
        ScaleGroups byX = Maps.of(300, 100, 4, 100, 300, 4, 200, 200, 4);
        due.row("densest(9, what), the least x", what -> byX.densest(9, what), 0, 100, 300, 4, 1);
        ScaleGroups byY = Maps.of(100, 300, 4, 100, 100, 4, 100, 200, 4);
        due.row("densest(9, what), the least y", what -> byY.densest(9, what), 0, 100, 100, 4, 1);
        ScaleGroups heavier = Maps.of(100, 100, 4, 100, 300, 5, 300, 100, 5);
        due.row("densest(9, what), the heavier", what -> heavier.densest(9, what), 0, 100, 300, 5, 1);
        // By WEIGHT, not by how many POINTS.
        ScaleGroups few = Maps.of(100, 100, 1, 101, 100, 1, 101, 101, 1, 500, 500, 4);
        due.row("densest(9, what), the fewer", what -> few.densest(9, what), 0, 500, 500, 4, 1);
    }

    /** Least x and least y may be those of POINTS that are not in the square: x 99 of one, y 299 of another. */
    private static void densestOfStrangePlaces() {
        due.promise(25);
        ScaleGroups map = Maps.of(100, 300, 9, 99, 900, 1, 500, 299, 1);
        due.row("densest(9, what)", what -> map.densest(9, what), 0, 99, 299, 9, 1);
        due.row("densest(10, what)", what -> map.densest(10, what), 0, 100, 300, 9, 1);
        due.row("densest(0, what)", what -> map.densest(0, what), 0, 99, 299, 11, 3);
    }

    private static void outlineFromLeast() {
        due.promise(27);
        // 0 (0, 50), 1 (50, 0), 2 (50, 50), 3 (50, 100), 4 (100, 50): from 0 by the lesser y on.
        ScaleGroups map = Maps.of(50, 100, 1, 100, 50, 1, 0, 50, 1, 50, 50, 1, 50, 0, 1);
        due.row("outline(0, 0, i)", i -> map.outline(0, 0, i), -1, 4, 0, 1, 4, 3, NONE);
        due.promise(28);
        due.is("area(0, 0)", map.area(0, 0), 10000);
        // Of two with the least x the lesser y is the first.
        ScaleGroups two = Maps.of(0, 10, 1, 0, 90, 1, 100, 50, 1);
        due.promise(27);
        due.row("outline(0, 0, i) of two with the least x", i -> two.outline(0, 0, i), -1, 3, 0, 2, 1, NONE);
        due.promise(28);
        due.is("area(0, 0) of two with the least x", two.area(0, 0), 8000);
    }

    /** POINTS on edges are no corners, on whichever side; nor are such as lie within. */
    private static void outlineOfFlatSides() {
        due.promise(27);
        // Numbers by x: 0 to 4 at x 0, 5 and 6 at 10, 7 (20, 20), 8 and 9 at 30, 10 to 14 at 40.
        ScaleGroups map = new ScaleGroups();
        for (int i = 0; i < 5; i++) {
            map.add(0, 10 * i, 1);
            map.add(40, 10 * i, 1);
        }
        map.add(10, 0, 1);
        map.add(30, 0, 1);
        map.add(10, 40, 1);
        map.add(30, 40, 1);
        map.add(20, 20, 1);
        due.row("outline(0, 0, i)", i -> map.outline(0, 0, i), -1, 4, 0, 10, 14, 4, NONE);
        due.promise(28);
        due.is("area(0, 0)", map.area(0, 0), 3200);
        // A triangle with POINTS on its slanting sides.
        ScaleGroups slanting = Maps.of(0, 0, 1, 10, 20, 1, 20, 40, 1, 20, 0, 1, 30, 20, 1, 40, 0, 1);
        due.promise(27);
        due.row("outline(0, 0, i) of a triangle", i -> slanting.outline(0, 0, i), -1, 3, 0, 5, 3, NONE);
        due.promise(28);
        due.is("area(0, 0) of a triangle", slanting.area(0, 0), 1600);
        // A line upright: its ends, the lesser y first.
        ScaleGroups upright = Maps.of(7, 30, 1, 7, 10, 1, 7, 20, 1);
        due.promise(27);
        due.row("outline(0, 0, i) of a line upright", i -> upright.outline(0, 0, i), -1, 2, 0, 2, NONE);
        // Downwards: the least POINT is that with the least x.
        ScaleGroups down = Maps.of(10, 30, 1, 20, 20, 1, 30, 10, 1);
        due.row("outline(0, 0, i) of a line downwards", i -> down.outline(0, 0, i), -1, 2, 0, 2, NONE);
    }

    /** A cross: of six ways as long that between the least ends. */
    private static void longestByLesserEnd() {
        due.promise(15);
        ScaleGroups cross = Maps.of(100, 100, 1, 90, 100, 1, 110, 100, 1, 100, 90, 1, 100, 110, 1);
        // 0 (90, 100), 1 (100, 90), 2 the middle, 3 (100, 110), 4 (110, 100)
        due.row("longest of a cross", what -> cross.longest(what), 0, 20, 0, 1);
        cross.take(0);
        due.row("longest of a cross less one", what -> cross.longest(what), 0, 20, 0, 2);
    }

    /** Two forks: 0 and 1 hang on 2, 4 and 5 on 3. Ways from 0 or 1 to 4 or 5 are as long: 14, 50 and 14. */
    private static void longestByOtherEnd() {
        due.promise(15);
        ScaleGroups forks = Maps.of(0, 40, 1, 0, 60, 1, 10, 50, 1, 60, 50, 1, 70, 40, 1, 70, 60, 1);
        due.row("longest of forks", what -> forks.longest(what), 0, 78, 0, 4);
        forks.take(0);
        due.row("longest of forks less one", what -> forks.longest(what), 0, 78, 0, 3);
        // A longer way to a greater end is longer all the same.
        forks.add(1, 65, 1);
        due.is("longest(0) of longer forks", forks.longest(0), 83);
        due.is("longest(1) of longer forks", forks.longest(1), 1);
    }

    private static void greatestZoom() {
        due.promise(16);
        // In one GROUP of z 0 to 7 by one between them, though 16 from one another.
        ScaleGroups map = Maps.line(0, 8, 16);
        due.is("zoom(0, 2)", map.zoom(0, 2), 7);
        due.is("zoom(0, 1)", map.zoom(0, 1), 7);
        map.take(1);
        due.is("zoom(0, 1) without it", map.zoom(0, 1), 6);
        due.promise(13);
        // Of the JOINS after which two are in one part the first.
        ScaleGroups line = Maps.line(0, 1, 3, 6);
        due.row("meets(0, q)", q -> line.meets(0, q), 0, NONE, 0, 1, 2, NONE);
        due.row("meets(3, q)", q -> line.meets(3, q), 0, 2, 2, 2, NONE, NONE);
    }

    /** Of all ways to cover a GROUP with TILES that with the fewest: as wide as there are no others within. */
    private static void fewestTiles() {
        due.promise(26);
        // All of one quarter: one TILE, though four of the next ZOOM had them too.
        ScaleGroups alone = Maps.of(0, 0, 1, 100, 100, 1, 0, 100, 1, 100, 0, 1, 1000, 1000, 1);
        due.is("cover(3, 0)", alone.cover(3, 0), 1);
        due.is("cover(0, 0)", Maps.line(0, 1, 2).cover(0, 0), 1);
        ScaleGroups middle = Maps.of(511, 511, 1, 512, 512, 1, 511, 512, 1, 512, 511, 1, 0, 0, 1, 1023, 1023, 1);
        // Each of the four TILES of z 1 has one of the four in the middle, two of these a stranger, too.
        due.is("cover(10, of the middle)", middle.cover(10, middle.groupOf(10, middle.at(511, 511))), 4);
        due.is("cover(10, of the first)", middle.cover(10, 0), 1);
        // Two in one TILE of z 1 without strangers, one in another with one: two TILES.
        ScaleGroups three = Maps.of(511, 100, 1, 512, 100, 1, 513, 100, 1, 0, 100, 1);
        due.is("cover(10, 1)", three.cover(10, 1), 2);
    }

    private static void leastOfPart() {
        due.promise(31);
        // 0 (0, 0), 1 (5, 900), 2 (9, 0), 3 (12, 900), 4 (500, 500): JOINS 1 3, 0 2, then 3 4, then 2 4
        ScaleGroups map = Maps.of(0, 0, 1, 9, 0, 1, 5, 900, 1, 12, 900, 1, 500, 500, 1);
        due.row("part(5, point)", p -> map.part(5, p), 0, 0, 1, 2, 3, 4, NONE);
        due.row("part(4, point)", p -> map.part(4, p), 0, 0, 1, 2, 1, 4, NONE);
        due.row("part(3, point)", p -> map.part(3, p), 0, 0, 1, 0, 1, 4, NONE);
        due.row("part(2, point)", p -> map.part(2, p), 0, 0, 1, 0, 1, 1, NONE);
        due.row("part(1, point)", p -> map.part(1, p), 0, 0, 0, 0, 0, 0, NONE);
    }

    private static void clearestByLeastK() {
        due.promise(32);
        // ROOTS 10, 20, 30, 40: all as clear.
        due.is("clearest() of steps 10, 10, 10", Maps.line(0, 10, 30, 60, 100).clearest(), 2);
        // ROOTS 10, 30, 40, 60: k 4 and k 2.
        due.is("clearest() of steps 20, 10, 20", Maps.line(0, 10, 40, 80, 140).clearest(), 2);
        // ROOTS 10, 30, 50, 60: k 4 and k 3.
        due.is("clearest() of steps 20, 20, 10", Maps.line(0, 10, 40, 90, 150).clearest(), 3);
        // ROOTS 10, 31, 50, 60
        due.is("clearest() of steps 21, 19, 10", Maps.line(0, 10, 41, 91, 151).clearest(), 4);
        // ROOTS that are alike though APART is not: 4 of 16 and of 18, so no step, as k 2 has none either.
        ScaleGroups like = Maps.of(0, 0, 1, 0, 4, 1, 3, 7, 1);
        due.promise(12);
        due.row("join(join, 0) of like ROOTS", j -> like.join(j, 0), 0, 16, 18);
        due.promise(32);
        due.is("clearest() of like ROOTS", like.clearest(), 2);
    }

    /** ROOTS 10 and 20: JOIN 0 lasts 2 times 10, as do both its POINTS together. */
    private static void bestRatherJoin() {
        due.promise(33);
        ScaleGroups map = Maps.line(0, 10, 30);
        due.row("best", what -> map.best(what), 0, 40, 2);
        due.row("best(10 and i)", what -> map.best(what), 10, 100, 2, NONE);
        // One less, and it is the POINTS; one more, and it is the JOIN.
        ScaleGroups less = Maps.line(0, 10, 29);
        due.row("best, less", what -> less.best(what), 0, 39, 3);
        due.row("best(10 and i), less", what -> less.best(what), 10, 0, 1, 2, NONE);
        ScaleGroups more = Maps.line(0, 10, 31);
        due.row("best, more", what -> more.best(what), 0, 43, 2);
        due.row("best(10 and i), more", what -> more.best(what), 10, 100, 2, NONE);
    }

    /**
     * ROOTS 10, 20 and 35, WEIGHTS 1, 1, 2: JOIN 0 lasts 20, as do its POINTS; JOIN 1 lasts 4 times 15, as do JOIN 0
     * and POINT 2, which lasts 40. From the last JOIN on: JOIN 1 itself.
     */
    private static void bestRatherUpperJoin() {
        due.promise(33);
        ScaleGroups map = Maps.of(0, 0, 1, 10, 0, 1, 30, 0, 2, 65, 0, 1);
        due.promise(12);
        due.row("join(join, 8)", j -> map.join(j, 8), 0, 20, 60, 0);
        due.promise(33);
        due.row("best", what -> map.best(what), 0, 95, 2);
        due.row("best(10 and i)", what -> map.best(what), 10, 101, 3, NONE);
        // With a nearer last one JOIN 1 is less: its SIDES, of which JOIN 0 is rather than its POINTS.
        ScaleGroups nearer = Maps.of(0, 0, 1, 10, 0, 1, 30, 0, 2, 64, 0, 1);
        due.row("best, nearer", what -> nearer.best(what), 0, 94, 3);
        due.row("best(10 and i), nearer", what -> nearer.best(what), 10, 100, 2, 3, NONE);
    }

    private static void bestByLeastPoint() {
        due.promise(33);
        // JOIN 0 of 3 and 4, JOIN 1 of 0 and 2; 1 is far from both: by least POINTS 101, 1, 100.
        ScaleGroups map = Maps.of(0, 0, 1, 1, 900, 1, 2, 0, 1, 900, 0, 1, 901, 0, 1);
        due.row("best(10 and i)", what -> map.best(what), 10, 101, 1, 100, NONE);
        due.is("best(1)", map.best(1), 3);
        // ROOTS 2, 1, 898, 900 (of 0 and 1)
        due.is("best(0)", map.best(0), 2 * 896 + 2 * 897 + 900);
    }

    private static void labelsByNumber() {
        ScaleGroups map = Maps.of(0, 0, 5, 100, 0, 9, 200, 0, 5, 300, 0, 9, 400, 0, 5);
        due.promise(35);
        due.row("label(5, i, 0)", i -> map.label(5, i, 0), -1, NONE, 1, 3, 0, 2, 4, NONE);
        // SIZE is 62 at z 4, and they are 100 from one another.
        map.size(999);
        due.promise(34);
        due.is("shown(4)", map.shown(4), 5);
        // Two like ones that hide one another: the least number is SHOWN.
        ScaleGroups two = Maps.of(0, 0, 5, 50, 50, 5);
        two.size(999);
        due.promise(35);
        due.row("label(4, i, 0) of two like ones", i -> two.label(4, i, 0), 0, 0, NONE);
        due.row("label(4, 0, what) of two like ones", what -> two.label(4, 0, what), 0, 0, 10, 1, NONE);
        two.weigh(1, 6);
        due.row("label(4, 0, what) of the heavier", what -> two.label(4, 0, what), 0, 1, 11, 1, NONE);
    }

    /** COUNTED with the nearest; of two as near with that SHOWN first, be its number the lesser or the greater one. */
    private static void countedWithFirstShown() {
        due.promise(36);
        // At z 4 RADIUS is 64 and SIZE with 999 is 62. 60 by x and by y from the one to the next.
        ScaleGroups even = Maps.of(100, 100, 8, 160, 160, 1, 220, 220, 9);
        even.size(999);
        due.row("counted(4, group), the last SHOWN first", g -> even.counted(4, g), 0, 0, 2, 2, NONE);
        even.weigh(0, 9);
        due.row("counted(4, group), the first SHOWN first", g -> even.counted(4, g), 0, 0, 0, 2, NONE);
        ScaleGroups nearer = Maps.of(100, 100, 9, 160, 160, 1, 219, 219, 8);
        nearer.size(999);
        due.row("counted(4, group), the nearer SHOWN last", g -> nearer.counted(4, g), 0, 0, 2, 2, NONE);
        // One SHOWN later than the one that hid it counts as well, if it is nearer; as near, the first SHOWN.
        ScaleGroups later = Maps.of(100, 100, 9, 160, 160, 5, 210, 210, 1);
        later.size(999);
        due.row("counted(4, group), the nearer SHOWN later", g -> later.counted(4, g), 0, 0, 2, 2, NONE);
        due.promise(35);
        due.row("label(4, 0, what), the nearer SHOWN later", what -> later.label(4, 0, what), 0, 0, 9, 0, NONE);
        due.row("label(4, 1, what), the nearer SHOWN later", what -> later.label(4, 1, what), 0, 2, 6, 1, NONE);
        due.promise(36);
        ScaleGroups asNear = Maps.of(100, 100, 9, 155, 155, 5, 210, 210, 1);
        asNear.size(999);
        due.row("counted(4, group), as near, SHOWN later", g -> asNear.counted(4, g), 0, 0, 0, 2, NONE);
        // All four are 55 by x and 40 by y from the one between them.
        ScaleGroups four = Maps.of(200, 200, 1, 145, 160, 5, 255, 160, 6, 145, 240, 7, 255, 240, 4);
        four.size(999);
        due.promise(34);
        // 0 (145, 160), 1 (145, 240), 2 (200, 200), 3 (255, 160), 4 (255, 240): 80 and 110 from one another.
        due.is("shown(4) of four", four.shown(4), 4);
        due.promise(36);
        due.is("counted(4, 2) of four as near", four.counted(4, 2), 1);
        due.promise(35);
        due.row("label(4, 0, what) of four", what -> four.label(4, 0, what), 0, 1, 8, 1);
        due.row("label(4, 1, what) of four", what -> four.label(4, 1, what), 0, 3, 6, 0);
    }

    /** Only JOINS from the first on are as they were: not such as are the same behind one that is another. */
    private static void sameTillFirstOther() {
        due.promise(37);
        // JOINS of 1, 4, 9; by one between the last two these are of 1, 1, 4, 4.
        ScaleGroups map = Maps.line(0, 1, 3, 6);
        map.add(5, 0, 1);
        due.row("repaired, a JOIN between", what -> map.repaired(what), 0, 2, 1, 1 + 4 - 9, 1);
        map.take(3);
        due.row("repaired, and back", what -> map.repaired(what), 0, 1, 2, 9 - 1 - 4, 1);
        // At the end: all that were.
        map.add(1000, 0, 1);
        due.row("repaired, at the end", what -> map.repaired(what), 0, 1, 0, 994 * 994, 3);
        map.take(4);
        due.row("repaired, without the end", what -> map.repaired(what), 0, 0, 1, -994 * 994, 3);
        // At the beginning: none, though all are there still.
        map.add(6, 1, 1);
        due.row("repaired, at the beginning", what -> map.repaired(what), 0, 1, 0, 1, 1);
        map.add(0, 1, 1);
        due.row("repaired, ahead of all", what -> map.repaired(what), 0, 1, 0, 1, 0);
    }

    /** By places: a JOIN of the same numbers is NEW, one of other numbers is none. */
    private static void newBeforeAndAfterLike() {
        due.promise(37);
        ScaleGroups map = Maps.line(10, 20, 30);
        map.add(0, 5, 1);
        due.promise(12);
        // 0 (0, 5), 1 (10, 0), 2 (20, 0), 3 (30, 0): JOINS 1 2, 2 3, then 0 1 of 125.
        due.row("join(join, 1)", j -> map.join(j, 1), 0, 1, 2, 0);
        due.row("join(join, 9)", j -> map.join(j, 9), 0, 0, 0, 1);
        due.promise(37);
        due.is("repaired(3), of other numbers", map.repaired(3), 2);
        map.clear();
        map.add(10, 0, 1);
        map.add(20, 0, 1);
        due.is("repaired(0), as it was GONE", map.repaired(0), 1);
        map.take(0);
        map.add(21, 0, 1);
        // POINTS 0 and 1 again, at other places.
        due.promise(12);
        due.is("join(0, 9), of the same numbers", map.join(0, 9), 1);
    }

    /** One comes just beside an end of a JOIN, on its way: both its JOINS are NEW, though near to the old one. */
    private static void newByEachPlace() {
        due.promise(37);
        int[] places = {0, 1, 2, 255, 256, 510, 511, 512, 513, 767, 768, 1021, 1022};
        for (int x : places) {
            for (int y : places) {
                String at = "(" + x + ", " + y + ")";
                ScaleGroups right = Maps.of(x, y, 1, x > 500 ? 0 : 1023, y, 1, x > 500 ? x - 1 : x + 1, y, 1);
                due.row("repaired, beside " + at, what -> right.repaired(what), 0, 2, 1);
                ScaleGroups up = Maps.of(x, y, 1, x, y > 500 ? 0 : 1023, 1, x, y > 500 ? y - 1 : y + 1, 1);
                due.row("repaired, above " + at, what -> up.repaired(what), 0, 2, 1);
            }
        }
    }

    /** JOINS as they were ahead of the latest REPAIR alone: not those of REPAIRS ahead of that. */
    private static void notAsBeforeThat() {
        due.promise(37);
        ScaleGroups map = Maps.line(0, 1, 3, 6, 1000);
        map.take(4);
        due.row("repaired, one less", what -> map.repaired(what), 0, 0, 1, -994 * 994, 3);
        map.take(3);
        due.row("repaired, two less", what -> map.repaired(what), 0, 0, 1, -9, 2);
        map.take(2);
        due.row("repaired, three less", what -> map.repaired(what), 0, 0, 1, -4, 1);
        map.add(3, 0, 1);
        due.row("repaired, one more", what -> map.repaired(what), 0, 1, 0, 4, 1);
        due.promise(12);
        due.row("join(join, 9), one more", j -> map.join(j, 9), 0, 0, 1, NONE);
        map.clear();
        map.add(0, 0, 1);
        map.add(1, 0, 1);
        due.is("join(0, 9), as it was long ago", map.join(0, 9), 1);
        due.promise(37);
        due.row("repaired, as it was long ago", what -> map.repaired(what), 0, 1, 0, 1, 0);
    }

    private static void mostLinks() {
        due.promise(40);
        // Of three the most, 2; of two the most, 3.
        due.is("look(7) of a line", Maps.line(0, 1, 2, 3, 4).look(7), 2);
        ScaleGroups forks = Maps.of(0, 40, 1, 0, 60, 1, 10, 50, 1, 60, 50, 1, 70, 40, 1, 70, 60, 1);
        due.is("look(7) of forks", forks.look(7), 3);
        due.is("look(6) of forks", forks.look(6), 4900 + 400);
    }
}
