/**
 * Points on a map gathered by zoom: one order of joins, cut at each scale.
 *
 * <p>What is asked is worked out anew from the POINTS and the JOINS at each call, in rows that are made once with
 * the object: so no answer can lag behind a change, and no call makes an object.
 */
public final class ScaleGroups {
    public static final int NONE = -1;

    private static final int MOST = 24;
    private static final int SIDE = 1024;
    private static final int LAST_ZOOM = 10;
    private static final int GREATEST_WEIGHT = 99;
    private static final int GREATEST_SIZE = 999;
    private static final int FIRST_SIZE = 64;
    private static final int FARTHEST = 9999;
    private static final int JOIN_NODE = 100;
    private static final int BEST_NODE = 10;
    private static final int NO_WOULD = NONE - 9999999;

    private Order now = new Order();
    private Order ahead = new Order();
    private final Order tried = new Order();
    private final Scale scale = new Scale();
    private final Scale other = new Scale();
    private final Labels labels = new Labels();
    private final Outline corners = new Outline();
    private final Ways ways = new Ways();
    private final Lasting lasting = new Lasting();
    private final int[] row = new int[MOST];
    private int labelSize = FIRST_SIZE;
    private int drawState = 0;

    public ScaleGroups() {
    }

    // ---- POINTS come and go

    public int add(int x, int y, int weight) {
        if (!isWeight(weight) || !now.points.canCome(x, y)) {
            return NONE;
        }
        startRepair();
        now.points.put(x, y, weight);
        now.rebuild();
        return now.countUnlike(ahead);
    }

    public int take(int point) {
        if (!isPoint(point)) {
            return NONE;
        }
        startRepair();
        now.points.drop(point);
        now.rebuild();
        return now.countUnlike(ahead);
    }

    public int weigh(int point, int weight) {
        if (!isPoint(point) || !isWeight(weight)) {
            return NONE;
        }
        int before = now.points.ws[point];
        now.points.ws[point] = weight;
        return before;
    }

    public int scatter(int n) {
        if (n < 1 || n > MOST) {
            return NONE;
        }
        startRepair();
        int came = 0;
        for (int i = 0; i < n; i++) {
            int x = draw(SIDE);
            int y = draw(SIDE);
            int weight = draw(GREATEST_WEIGHT) + 1;
            if (now.points.canCome(x, y)) {
                now.points.put(x, y, weight);
                came++;
            }
        }
        now.rebuild();
        return came;
    }

    public int state(int v) {
        int before = drawState;
        drawState = v;
        return before;
    }

    public int clear() {
        startRepair();
        int gone = now.points.count;
        now.points.count = 0;
        now.rebuild();
        return gone;
    }

    public int size(int v) {
        if (v < 0 || v > GREATEST_SIZE) {
            return NONE;
        }
        int before = labelSize;
        labelSize = v;
        return before;
    }

    // ---- POINTS

    public int point(int point, int what) {
        if (!isPoint(point)) {
            return NONE;
        }
        Points points = now.points;
        switch (what) {
            case 0:
                return points.xs[point];
            case 1:
                return points.ys[point];
            case 2:
                return points.ws[point];
            case 3:
                return points.nearestTo(point);
            case 4:
                return points.apartFromNearest(point);
            case 5:
                return now.linksOf(point);
            default:
                return NONE;
        }
    }

    public int at(int x, int y) {
        return now.points.find(x, y);
    }

    public int near(int x, int y, int k) {
        if (!isNearPlace(x) || !isNearPlace(y)) {
            return NONE;
        }
        Points points = now.points;
        for (int i = 0; i < points.count; i++) {
            row[i] = points.squares(i, x, y);
        }
        for (int i = 0; i < points.count; i++) {
            if (rankInRow(i, points.count) == k) {
                return i;
            }
        }
        return NONE;
    }

    // ---- JOINS and TREE

    public int join(int join, int what) {
        if (join < 0 || join >= now.count) {
            return NONE;
        }
        switch (what) {
            case 0:
                return now.aparts[join];
            case 1:
                return now.firsts[join];
            case 2:
                return now.seconds[join];
            case 3:
                return Integer.bitCount(now.parts[join]);
            case 4:
                return now.points.weightOf(now.parts[join]);
            case 5:
                return now.firstSides[join];
            case 6:
                return now.otherSides[join];
            case 7:
                return now.joinsAbove[join];
            case 8:
                return now.lastsOf(JOIN_NODE + join);
            case 9:
                return ahead.hasPair(now.pairs[join]) ? 0 : 1;
            default:
                return NONE;
        }
    }

    public int meets(int p, int q) {
        if (!isPoint(p) || !isPoint(q)) {
            return NONE;
        }
        return now.meeting(p, q);
    }

    public int path(int p, int q, int i) {
        if (!isPoint(p) || !isPoint(q)) {
            return NONE;
        }
        ways.measure(now, false);
        int links = ways.far[p][q];
        if (i == NONE) {
            return links;
        }
        if (i < 0 || i > links) {
            return NONE;
        }
        for (int v = 0; v < now.points.count; v++) {
            if (ways.far[p][v] == i && ways.far[v][q] == links - i) {
                return v;
            }
        }
        return NONE;
    }

    public int longest(int what) {
        int count = now.points.count;
        if (count < 2 || what < 0 || what > 2) {
            return NONE;
        }
        ways.measure(now, true);
        int length = NONE;
        int from = NONE;
        int to = NONE;
        for (int p = 0; p < count; p++) {
            for (int q = p + 1; q < count; q++) {
                if (ways.far[p][q] > length) {
                    length = ways.far[p][q];
                    from = p;
                    to = q;
                }
            }
        }
        return what == 0 ? length : what == 1 ? from : to;
    }

    public int zoom(int p, int q) {
        int join = meets(p, q);
        if (join < 0 || join >= now.count) {
            return NONE;
        }
        for (int z = LAST_ZOOM; z >= 0; z--) {
            if (join < now.joinsWithin(z)) {
                return z;
            }
        }
        return NONE;
    }

    // ---- GROUPS

    public int groups(int z) {
        return isZoom(z) ? now.points.count - now.joinsWithin(z) : NONE;
    }

    public int groupOf(int z, int point) {
        if (!isZoom(z) || !isPoint(point)) {
            return NONE;
        }
        scale.cut(now, z);
        return scale.groupAt[point];
    }

    public int group(int z, int group, int what) {
        if (!cutsGroup(z, group)) {
            return NONE;
        }
        Points points = now.points;
        int set = scale.sets[group];
        switch (what) {
            case 0:
                return Sets.least(set);
            case 1:
                return Integer.bitCount(set);
            case 2:
                return scale.weights[group];
            case 3:
                return Sets.lowest(points.xs, set);
            case 4:
                return Sets.highest(points.xs, set);
            case 5:
                return Sets.lowest(points.ys, set);
            case 6:
                return Sets.highest(points.ys, set);
            case 7:
                return scale.xs[group];
            case 8:
                return scale.ys[group];
            case 9:
                return points.heaviestOf(set);
            case 10:
                return now.makerOf(set);
            case 11:
                return countSplits(z, set);
            case 12:
                return points.wide(set);
            default:
                return NONE;
        }
    }

    public int member(int z, int group, int i) {
        return cutsGroup(z, group) ? Sets.nth(scale.sets[group], i) : NONE;
    }

    public int splits(int z, int group, int i) {
        if (z == LAST_ZOOM || !cutsGroup(z, group)) {
            return NONE;
        }
        other.cut(now, z + 1);
        return Sets.nth(other.groupsWithin(scale.sets[group]), i);
    }

    // ---- what is where

    public int window(int z, int x0, int x1, int y0, int y1, int what) {
        if (!isZoom(z)) {
            return NONE;
        }
        scale.cut(now, z);
        int centred = scale.centresIn(x0, x1, y0, y1);
        int inside = now.points.within(x0, x1, y0, y1);
        switch (what) {
            case 0:
                return Integer.bitCount(centred);
            case 1:
                return scale.weightOf(centred);
            case 2:
                return Integer.bitCount(inside);
            case 3:
                return now.points.weightOf(inside);
            default:
                return NONE;
        }
    }

    public int top(int z, int x0, int x1, int y0, int y1, int i) {
        if (!isZoom(z)) {
            return NONE;
        }
        scale.cut(now, z);
        return scale.heaviest(scale.centresIn(x0, x1, y0, y1), i);
    }

    public int filled(int z, int i) {
        if (!isZoom(z) || i < NONE) {
            return NONE;
        }
        Points points = now.points;
        int halvings = LAST_ZOOM - z;
        for (int p = 0; p < points.count; p++) {
            row[p] = SIDE * (points.ys[p] >> halvings) + (points.xs[p] >> halvings);
        }
        int tile = NONE;
        for (int passed = 0; passed <= points.count; passed++) {
            tile = nextInRow(tile, points.count);
            if (tile == NONE) {
                return i == NONE ? passed : NONE;
            }
            if (passed == i) {
                return tile;
            }
        }
        return NONE;
    }

    public int densest(int z, int what) {
        Points points = now.points;
        if (!isZoom(z) || points.count == 0) {
            return NONE;
        }
        int reach = (SIDE >> z) - 1;
        int bestX = SIDE;
        int bestY = SIDE;
        int bestWeight = 0;
        for (int a = 0; a < points.count; a++) {
            for (int b = 0; b < points.count; b++) {
                int x = points.xs[a];
                int y = points.ys[b];
                int weight = points.weightOf(points.within(x, x + reach, y, y + reach));
                boolean isFirst = x < bestX || x == bestX && y < bestY;
                if (weight > bestWeight || weight == bestWeight && isFirst) {
                    bestX = x;
                    bestY = y;
                    bestWeight = weight;
                }
            }
        }
        switch (what) {
            case 0:
                return bestX;
            case 1:
                return bestY;
            case 2:
                return bestWeight;
            case 3:
                return Integer.bitCount(points.within(bestX, bestX + reach, bestY, bestY + reach));
            default:
                return NONE;
        }
    }

    public int cover(int z, int group) {
        if (!cutsGroup(z, group)) {
            return NONE;
        }
        int set = scale.sets[group];
        int count = 0;
        for (int p = 0; p < now.points.count; p++) {
            // TILES nest, so each POINT's widest TILE without strangers is in the COVER: counted at its least POINT.
            if (Sets.has(set, p) && Sets.least(widestTile(p, set)) == p) {
                count++;
            }
        }
        return count;
    }

    public int outline(int z, int group, int i) {
        if (!cutsGroup(z, group)) {
            return NONE;
        }
        corners.draw(now.points, scale.sets[group]);
        if (i == NONE) {
            return corners.count;
        }
        return i >= 0 && i < corners.count ? corners.row[i] : NONE;
    }

    public int area(int z, int group) {
        if (!cutsGroup(z, group)) {
            return NONE;
        }
        corners.draw(now.points, scale.sets[group]);
        return corners.twiceArea(now.points);
    }

    public int drift(int z) {
        if (z < 0 || z >= LAST_ZOOM) {
            return NONE;
        }
        scale.cut(now, z);
        other.cut(now, z + 1);
        int sum = 0;
        for (int g = 0; g < other.count; g++) {
            int whole = scale.groupOfPart(other.sets[g]);
            if (whole != NONE) {
                sum += Sets.farther(other.xs[g] - scale.xs[whole], other.ys[g] - scale.ys[whole]);
            }
        }
        return sum;
    }

    public int tile(int z, int tx, int ty, int what) {
        if (!isTile(z, tx) || !isTile(z, ty)) {
            return NONE;
        }
        int inside = pointsInTile(z, tx, ty);
        switch (what) {
            case 0:
                return Integer.bitCount(inside);
            case 1:
                return now.points.weightOf(inside);
            case 2:
                int radius = SIDE >> z;
                int x = tx * radius;
                int y = ty * radius;
                scale.cut(now, z);
                return Integer.bitCount(scale.centresIn(x, x + radius - 1, y, y + radius - 1));
            case 3:
                return z == LAST_ZOOM ? 0 : filledQuarters(z, tx, ty);
            default:
                return NONE;
        }
    }

    // ---- parts and how long they last

    public int part(int k, int point) {
        if (k < 1 || k > now.points.count || !isPoint(point)) {
            return NONE;
        }
        return Sets.least(now.partOf(point, now.points.count - k));
    }

    public int clearest() {
        int clearest = NONE;
        int widest = NONE;
        for (int j = now.count - 1; j >= 1; j--) {
            int step = now.roots[j] - now.roots[j - 1];
            if (step > widest) {
                widest = step;
                clearest = now.points.count - j;
            }
        }
        return clearest;
    }

    public int best(int what) {
        lasting.choose(now);
        if (what == 0) {
            return lasting.total;
        }
        if (what == 1) {
            return lasting.count;
        }
        return what >= BEST_NODE ? lasting.nth(what - BEST_NODE, now.points.count) : NONE;
    }

    // ---- LABELS

    public int shown(int z) {
        if (!isZoom(z)) {
            return NONE;
        }
        layLabels(z);
        return labels.count;
    }

    public int label(int z, int i, int what) {
        if (!isZoom(z)) {
            return NONE;
        }
        layLabels(z);
        if (i < 0 || i >= labels.count) {
            return NONE;
        }
        int counted = labels.countedWith(i, scale.count);
        switch (what) {
            case 0:
                return labels.visible[i];
            case 1:
                return scale.weightOf(counted);
            case 2:
                return Integer.bitCount(counted) - 1;
            default:
                return NONE;
        }
    }

    public int counted(int z, int group) {
        if (!isZoom(z)) {
            return NONE;
        }
        layLabels(z);
        if (group < 0 || group >= scale.count) {
            return NONE;
        }
        int holder = labels.holders[group];
        return holder >= 0 && holder < labels.count ? labels.visible[holder] : NONE;
    }

    // ---- REPAIR

    public int repaired(int what) {
        switch (what) {
            case 0:
                return now.countUnlike(ahead);
            case 1:
                return ahead.countUnlike(now);
            case 2:
                // JOINS in both are the same PAIRS and so as far APART: they fall out of the difference.
                return now.sumAparts() - ahead.sumAparts();
            case 3:
                return now.sameFromFirst(ahead);
            default:
                return NONE - 1;
        }
    }

    public int would(int x, int y, int what) {
        if (what < 0 || what > 1 || !now.points.canCome(x, y)) {
            return NO_WOULD;
        }
        tried.points.copy(now.points);
        tried.points.put(x, y, 1);
        tried.rebuild();
        return what == 0 ? tried.countUnlike(now) : tried.sumAparts() - now.sumAparts();
    }

    public int stirred(int z) {
        if (!isZoom(z)) {
            return NONE;
        }
        scale.cut(now, z);
        other.cut(ahead, z);
        int count = 0;
        for (int p = 0; p < now.points.count; p++) {
            row[p] = ahead.points.find(now.points.xs[p], now.points.ys[p]);
            for (int q = 0; q < p && row[p] != NONE; q++) {
                if (row[q] != NONE) {
                    boolean oneNow = scale.groupAt[p] == scale.groupAt[q];
                    boolean oneAhead = other.groupAt[row[p]] == other.groupAt[row[q]];
                    count += oneNow != oneAhead ? 1 : 0;
                }
            }
        }
        return count;
    }

    public int look(int what) {
        int all = Sets.first(now.points.count);
        switch (what) {
            case 0:
                return now.points.count;
            case 1:
                return now.points.weightOf(all);
            case 2:
                return labelSize;
            case 3:
                return drawState;
            case 4:
                return now.sumAparts();
            case 5:
                return now.sumRoots();
            case 6:
                return now.points.wide(all);
            case 7:
                return now.mostLinks();
            case 8:
                return groupsOfAllZooms();
            default:
                return NONE - 9;
        }
    }

    // ---- what the calls share

    private static boolean isZoom(int z) {
        return z >= 0 && z <= LAST_ZOOM;
    }

    private static boolean isWeight(int weight) {
        return weight >= 1 && weight <= GREATEST_WEIGHT;
    }

    private static boolean isNearPlace(int v) {
        return v >= -FARTHEST && v <= FARTHEST;
    }

    private static boolean isTile(int z, int t) {
        return isZoom(z) && t >= 0 && t < 1 << z;
    }

    private boolean isPoint(int point) {
        return point >= 0 && point < now.points.count;
    }

    /** Cuts the scale of z, and tells whether it has such a GROUP. */
    private boolean cutsGroup(int z, int group) {
        if (!isZoom(z)) {
            return false;
        }
        scale.cut(now, z);
        return group >= 0 && group < scale.count;
    }

    /** What is now becomes what was ahead; the change that follows starts from its POINTS. */
    private void startRepair() {
        Order freed = ahead;
        ahead = now;
        now = freed;
        now.points.copy(ahead.points);
    }

    private int draw(int m) {
        drawState = 1664525 * drawState + 1013904223;
        return m < 1 ? 0 : (drawState >>> 8) % m;
    }

    private void layLabels(int z) {
        scale.cut(now, z);
        labels.lay(scale, labelSize >> z);
    }

    /** How many of the row's first ones stand ahead of the i-th: by what they hold, then by number. */
    private int rankInRow(int i, int count) {
        int rank = 0;
        for (int j = 0; j < count; j++) {
            if (row[j] < row[i] || row[j] == row[i] && j < i) {
                rank++;
            }
        }
        return rank;
    }

    /** The least of the row's first ones that is more than v; NONE without. */
    private int nextInRow(int v, int count) {
        int next = NONE;
        for (int i = 0; i < count; i++) {
            if (row[i] > v && (next == NONE || row[i] < next)) {
                next = row[i];
            }
        }
        return next;
    }

    private int countSplits(int z, int set) {
        if (z >= LAST_ZOOM) {
            return 1;
        }
        other.cut(now, z + 1);
        return Integer.bitCount(other.groupsWithin(set));
    }

    private int pointsInTile(int z, int tx, int ty) {
        int radius = SIDE >> z;
        int x = tx * radius;
        int y = ty * radius;
        return now.points.within(x, x + radius - 1, y, y + radius - 1);
    }

    private int filledQuarters(int z, int tx, int ty) {
        int quarters = 0;
        for (int i = 0; i < 4; i++) {
            if (pointsInTile(z + 1, 2 * tx + i % 2, 2 * ty + i / 2) != 0) {
                quarters |= 1 << i;
            }
        }
        return quarters;
    }

    /** The POINTS of the widest TILE with the POINT p in which there are none but of the set. */
    private int widestTile(int p, int set) {
        Points points = now.points;
        for (int z = 0; z <= LAST_ZOOM; z++) {
            int halvings = LAST_ZOOM - z;
            int inside = pointsInTile(z, points.xs[p] >> halvings, points.ys[p] >> halvings);
            if ((inside & ~set) == 0) {
                return inside;
            }
        }
        return 1 << p;
    }

    private int groupsOfAllZooms() {
        int sum = 0;
        for (int z = 0; z <= LAST_ZOOM; z++) {
            sum += groups(z);
        }
        return sum;
    }

    /** Sets of numbers below 24 (bit i: i is in it), and whole numbers. */
    static final class Sets {
        private Sets() {
        }

        static boolean has(int set, int i) {
            return (set >> i & 1) != 0;
        }

        /** The set of 0 to count less 1. */
        static int first(int count) {
            return (1 << count) - 1;
        }

        static int least(int set) {
            return nth(set, 0);
        }

        /** The n-th number (0 on, rising) of a set; NONE without. */
        static int nth(int set, int n) {
            int passed = 0;
            for (int i = 0; i < MOST; i++) {
                if (has(set, i)) {
                    if (passed == n) {
                        return i;
                    }
                    passed++;
                }
            }
            return NONE;
        }

        /** The least of the x or y that the row holds at the numbers of a set. */
        static int lowest(int[] row, int set) {
            int lowest = SIDE;
            for (int i = 0; i < row.length; i++) {
                if (has(set, i)) {
                    lowest = Math.min(lowest, row[i]);
                }
            }
            return lowest;
        }

        static int highest(int[] row, int set) {
            int highest = NONE;
            for (int i = 0; i < row.length; i++) {
                if (has(set, i)) {
                    highest = Math.max(highest, row[i]);
                }
            }
            return highest;
        }

        static int farther(int dx, int dy) {
            return Math.max(Math.abs(dx), Math.abs(dy));
        }

        /** ROOT of an APART: below 2048, for which eleven bits do. */
        static int root(int v) {
            int root = 0;
            for (int bit = 10; bit >= 0; bit--) {
                int more = root + (1 << bit);
                if (more * more <= v) {
                    root = more;
                }
            }
            return root;
        }
    }

    /** POINTS, by x, then y. */
    static final class Points {
        int count = 0;
        final int[] xs = new int[MOST];
        final int[] ys = new int[MOST];
        final int[] ws = new int[MOST];

        Points() {
        }

        boolean canCome(int x, int y) {
            return x >= 0 && x < SIDE && y >= 0 && y < SIDE && count < MOST && find(x, y) == NONE;
        }

        int find(int x, int y) {
            for (int i = 0; i < count; i++) {
                if (xs[i] == x && ys[i] == y) {
                    return i;
                }
            }
            return NONE;
        }

        void put(int x, int y, int weight) {
            if (count >= MOST) {
                return;
            }
            int i = count;
            while (i > 0 && (xs[i - 1] > x || xs[i - 1] == x && ys[i - 1] > y)) {
                move(i - 1, i);
                i--;
            }
            xs[i] = x;
            ys[i] = y;
            ws[i] = weight;
            count++;
        }

        void drop(int point) {
            if (point < 0 || point >= count) {
                return;
            }
            for (int i = point + 1; i < count; i++) {
                move(i, i - 1);
            }
            count--;
        }

        private void move(int from, int to) {
            xs[to] = xs[from];
            ys[to] = ys[from];
            ws[to] = ws[from];
        }

        void copy(Points from) {
            count = from.count;
            for (int i = 0; i < count; i++) {
                xs[i] = from.xs[i];
                ys[i] = from.ys[i];
                ws[i] = from.ws[i];
            }
        }

        int squares(int i, int x, int y) {
            int dx = xs[i] - x;
            int dy = ys[i] - y;
            return dx * dx + dy * dy;
        }

        int apart(int p, int q) {
            return squares(p, xs[q], ys[q]);
        }

        /** The other POINT of the first PAIR of p: of like ones that with the least other one is first in ORDER. */
        int nearestTo(int p) {
            int nearest = NONE;
            int least = 0;
            for (int q = 0; q < count; q++) {
                if (q != p && (nearest == NONE || apart(p, q) < least)) {
                    nearest = q;
                    least = apart(p, q);
                }
            }
            return nearest;
        }

        int apartFromNearest(int p) {
            int nearest = nearestTo(p);
            return nearest == NONE ? NONE : apart(p, nearest);
        }

        /** The POINTS in a WINDOW. */
        int within(int x0, int x1, int y0, int y1) {
            int set = 0;
            for (int i = 0; i < count; i++) {
                if (xs[i] >= x0 && xs[i] <= x1 && ys[i] >= y0 && ys[i] <= y1) {
                    set |= 1 << i;
                }
            }
            return set;
        }

        int weightOf(int set) {
            int sum = 0;
            for (int i = 0; i < count; i++) {
                if (Sets.has(set, i)) {
                    sum += ws[i];
                }
            }
            return sum;
        }

        int heaviestOf(int set) {
            int heaviest = NONE;
            int weight = 0;
            for (int i = 0; i < count; i++) {
                if (Sets.has(set, i) && ws[i] > weight) {
                    heaviest = i;
                    weight = ws[i];
                }
            }
            return heaviest;
        }

        int wide(int set) {
            int wide = 0;
            for (int p = 0; p < count; p++) {
                for (int q = p + 1; q < count && Sets.has(set, p); q++) {
                    if (Sets.has(set, q)) {
                        wide = Math.max(wide, apart(p, q));
                    }
                }
            }
            return wide;
        }
    }

    /** POINTS with their JOINS. */
    static final class Order {
        final Points points = new Points();
        int count = 0;
        final long[] keys = new long[MOST];
        final int[] aparts = new int[MOST];
        final int[] roots = new int[MOST];
        final int[] firsts = new int[MOST];
        final int[] seconds = new int[MOST];
        final int[] parts = new int[MOST];
        final int[] firstSides = new int[MOST];
        final int[] otherSides = new int[MOST];
        final int[] joinsAbove = new int[MOST];
        final int[] pointsAbove = new int[MOST];
        final long[] pairs = new long[MOST];
        private final long[] links = new long[MOST];
        private final int[] nodes = new int[MOST];

        Order() {
        }

        /**
         * The JOINS' PAIRS are the least tree of all PAIRS in ORDER, and no two PAIRS are alike in it: so the tree may
         * be grown from POINT 0 and put in ORDER afterwards, without looking at all PAIRS for each JOIN.
         */
        void rebuild() {
            growTree();
            for (int i = 0; i < points.count; i++) {
                nodes[i] = i;
                pointsAbove[i] = NONE;
            }
            for (int j = 0; j < count; j++) {
                makeJoin(j);
            }
        }

        private void growTree() {
            count = 0;
            int grown = 1;
            for (int i = 1; i < points.count; i++) {
                links[i] = keyOf(0, i);
            }
            for (int step = 1; step < points.count; step++) {
                int next = nextToGrow(grown);
                if (next == NONE) {
                    return;
                }
                putKey(links[next]);
                grown |= 1 << next;
                for (int i = 1; i < points.count; i++) {
                    if (!Sets.has(grown, i)) {
                        links[i] = Math.min(links[i], keyOf(next, i));
                    }
                }
            }
        }

        private int nextToGrow(int grown) {
            int next = NONE;
            for (int i = 1; i < points.count; i++) {
                if (!Sets.has(grown, i) && (next == NONE || links[i] < links[next])) {
                    next = i;
                }
            }
            return next;
        }

        /** A PAIR as one number, which rises with ORDER. */
        private long keyOf(int p, int q) {
            return (long) points.apart(p, q) << 10 | Math.min(p, q) << 5 | Math.max(p, q);
        }

        private void putKey(long key) {
            if (count >= MOST) {
                return;
            }
            int j = count;
            while (j > 0 && keys[j - 1] > key) {
                keys[j] = keys[j - 1];
                j--;
            }
            keys[j] = key;
            count++;
        }

        private void makeJoin(int j) {
            int p = (int) (keys[j] >> 5 & 31);
            int q = (int) (keys[j] & 31);
            if (p >= points.count || q >= points.count) {
                return;
            }
            aparts[j] = (int) (keys[j] >> 10);
            roots[j] = Sets.root(aparts[j]);
            firsts[j] = p;
            seconds[j] = q;
            pairs[j] = placeOf(p) << 20 | placeOf(q);
            firstSides[j] = nodes[p];
            otherSides[j] = nodes[q];
            parts[j] = setOf(nodes[p]) | setOf(nodes[q]);
            joinsAbove[j] = NONE;
            putBelow(firstSides[j], j);
            putBelow(otherSides[j], j);
            for (int i = 0; i < points.count; i++) {
                if (Sets.has(parts[j], i)) {
                    nodes[i] = JOIN_NODE + j;
                }
            }
        }

        private long placeOf(int p) {
            return (long) points.xs[p] << 10 | points.ys[p];
        }

        private void putBelow(int node, int join) {
            int part = joinOf(node);
            if (part != NONE) {
                joinsAbove[part] = join;
            } else if (node >= 0 && node < MOST) {
                pointsAbove[node] = join;
            }
        }

        /** The JOIN that a NODE is; NONE of a POINT. */
        static int joinOf(int node) {
            return node >= JOIN_NODE && node < JOIN_NODE + MOST ? node - JOIN_NODE : NONE;
        }

        /** The POINTS of a NODE. */
        int setOf(int node) {
            int join = joinOf(node);
            return join != NONE ? parts[join] : 1 << node;
        }

        /** WEIGHT of a NODE times how much ROOT rises from its own till the JOIN of which it is a SIDE. */
        int lastsOf(int node) {
            int join = joinOf(node);
            int above = joinAbove(node);
            if (above < 0 || above >= count) {
                return 0;
            }
            int own = join != NONE ? roots[join] : 0;
            return points.weightOf(setOf(node)) * (roots[above] - own);
        }

        private int joinAbove(int node) {
            int join = joinOf(node);
            if (join != NONE) {
                return joinsAbove[join];
            }
            return node >= 0 && node < MOST ? pointsAbove[node] : NONE;
        }

        /** The part of a POINT by the first JOINS. */
        int partOf(int point, int joins) {
            for (int j = Math.min(joins, count) - 1; j >= 0; j--) {
                if (Sets.has(parts[j], point)) {
                    return parts[j];
                }
            }
            return 1 << point;
        }

        int joinsWithin(int z) {
            int radius = SIDE >> z;
            int joins = 0;
            while (joins < count && aparts[joins] <= radius * radius) {
                joins++;
            }
            return joins;
        }

        int meeting(int p, int q) {
            for (int j = 0; j < count && p != q; j++) {
                if (Sets.has(parts[j], p) && Sets.has(parts[j], q)) {
                    return j;
                }
            }
            return NONE;
        }

        int makerOf(int set) {
            for (int j = 0; j < count; j++) {
                if (parts[j] == set) {
                    return j;
                }
            }
            return NONE;
        }

        int linksOf(int point) {
            int links = 0;
            for (int j = 0; j < count; j++) {
                if (firsts[j] == point || seconds[j] == point) {
                    links++;
                }
            }
            return links;
        }

        int mostLinks() {
            int most = 0;
            for (int i = 0; i < points.count; i++) {
                most = Math.max(most, linksOf(i));
            }
            return most;
        }

        int sumAparts() {
            int sum = 0;
            for (int j = 0; j < count; j++) {
                sum += aparts[j];
            }
            return sum;
        }

        int sumRoots() {
            int sum = 0;
            for (int j = 0; j < count; j++) {
                sum += roots[j];
            }
            return sum;
        }

        boolean hasPair(long pair) {
            for (int j = 0; j < count; j++) {
                if (pairs[j] == pair) {
                    return true;
                }
            }
            return false;
        }

        /** How many JOINS have a PAIR that is no JOIN's there. */
        int countUnlike(Order there) {
            int unlike = 0;
            for (int j = 0; j < count; j++) {
                if (!there.hasPair(pairs[j])) {
                    unlike++;
                }
            }
            return unlike;
        }

        int sameFromFirst(Order there) {
            int same = 0;
            while (same < count && same < there.count && pairs[same] == there.pairs[same]) {
                same++;
            }
            return same;
        }
    }

    /** GROUPS of one ZOOM. */
    static final class Scale {
        int count = 0;
        final int[] sets = new int[MOST];
        final int[] weights = new int[MOST];
        final int[] xs = new int[MOST];
        final int[] ys = new int[MOST];
        final int[] groupAt = new int[MOST];

        Scale() {
        }

        void cut(Order order, int z) {
            int joins = order.joinsWithin(z);
            int seen = 0;
            count = 0;
            for (int i = 0; i < order.points.count; i++) {
                if (!Sets.has(seen, i)) {
                    sets[count] = order.partOf(i, joins);
                    seen |= sets[count];
                    gather(order.points, count);
                    count++;
                }
            }
        }

        private void gather(Points points, int group) {
            int weight = 0;
            int sumX = 0;
            int sumY = 0;
            for (int i = 0; i < points.count; i++) {
                if (Sets.has(sets[group], i)) {
                    groupAt[i] = group;
                    weight += points.ws[i];
                    sumX += points.xs[i] * points.ws[i];
                    sumY += points.ys[i] * points.ws[i];
                }
            }
            weights[group] = weight;
            xs[group] = weight > 0 ? sumX / weight : 0;
            ys[group] = weight > 0 ? sumY / weight : 0;
        }

        /** The numbers of the GROUPS that are parts of a set of POINTS. */
        int groupsWithin(int set) {
            int within = 0;
            for (int g = 0; g < count; g++) {
                if ((sets[g] & ~set) == 0) {
                    within |= 1 << g;
                }
            }
            return within;
        }

        /** The GROUP of which a set of POINTS is a part; NONE without. */
        int groupOfPart(int set) {
            for (int g = 0; g < count; g++) {
                if ((set & ~sets[g]) == 0) {
                    return g;
                }
            }
            return NONE;
        }

        int centresIn(int x0, int x1, int y0, int y1) {
            int centred = 0;
            for (int g = 0; g < count; g++) {
                if (xs[g] >= x0 && xs[g] <= x1 && ys[g] >= y0 && ys[g] <= y1) {
                    centred |= 1 << g;
                }
            }
            return centred;
        }

        int weightOf(int groups) {
            int sum = 0;
            for (int g = 0; g < count; g++) {
                if (Sets.has(groups, g)) {
                    sum += weights[g];
                }
            }
            return sum;
        }

        /** The i-th of some GROUPS: by WEIGHT, the greatest first, then by number; NONE without. */
        int heaviest(int groups, int i) {
            for (int g = 0; g < count; g++) {
                if (Sets.has(groups, g) && countAhead(groups, g) == i) {
                    return g;
                }
            }
            return NONE;
        }

        private int countAhead(int groups, int group) {
            int rank = 0;
            for (int g = 0; g < count; g++) {
                boolean isAhead = weights[g] > weights[group] || weights[g] == weights[group] && g < group;
                if (Sets.has(groups, g) && isAhead) {
                    rank++;
                }
            }
            return rank;
        }

        /** How far the CENTRES of two GROUPS are from one another. */
        int gap(int g, int h) {
            return Sets.farther(xs[g] - xs[h], ys[g] - ys[h]);
        }
    }

    /** LABELS of one ZOOM: GROUPS that are SHOWN, in their order, and which of these each GROUP is with. */
    static final class Labels {
        int count = 0;
        final int[] visible = new int[MOST];
        final int[] holders = new int[MOST];

        Labels() {
        }

        void lay(Scale scale, int room) {
            int all = Sets.first(scale.count);
            count = 0;
            for (int i = 0; i < scale.count; i++) {
                int group = scale.heaviest(all, i);
                if (group != NONE && isClear(scale, group, room)) {
                    visible[count] = group;
                    count++;
                }
            }
            // Only now, as one SHOWN later may be nearer than those that hid it. A SHOWN one is nearest to itself.
            for (int g = 0; g < scale.count; g++) {
                holders[g] = nearestTo(scale, g);
            }
        }

        private boolean isClear(Scale scale, int group, int room) {
            int nearest = nearestTo(scale, group);
            return nearest == NONE || scale.gap(group, visible[nearest]) > room;
        }

        private int nearestTo(Scale scale, int group) {
            int nearest = NONE;
            int least = 0;
            for (int i = 0; i < count; i++) {
                int gap = scale.gap(group, visible[i]);
                if (nearest == NONE || gap < least) {
                    nearest = i;
                    least = gap;
                }
            }
            return nearest;
        }

        /** The GROUPS with the i-th SHOWN one, itself among them. */
        int countedWith(int i, int groups) {
            int counted = 0;
            for (int g = 0; g < groups; g++) {
                if (holders[g] == i) {
                    counted |= 1 << g;
                }
            }
            return counted;
        }
    }

    /** OUTLINE of a set of POINTS. */
    static final class Outline {
        int count = 0;
        // To the far end and back, with the first POINT twice.
        final int[] row = new int[2 * MOST + 1];

        Outline() {
        }

        void draw(Points points, int set) {
            count = 0;
            for (int i = 0; i < points.count; i++) {
                if (Sets.has(set, i)) {
                    turnTo(points, i, 2);
                }
            }
            int there = count;
            for (int i = points.count - 1; i >= 0 && there > 1; i--) {
                if (Sets.has(set, i) && i != row[there - 1]) {
                    turnTo(points, i, there + 1);
                }
            }
            if (there > 1) {
                count--;
            }
        }

        /** Puts a corner, after taking back those that it makes no corners; the first ones below kept stay. */
        private void turnTo(Points points, int point, int kept) {
            while (count >= kept && count >= 2 && cross(points, row[count - 2], row[count - 1], point) <= 0) {
                count--;
            }
            if (count < row.length) {
                row[count] = point;
                count++;
            }
        }

        private static int cross(Points points, int a, int b, int c) {
            return (points.xs[b] - points.xs[a]) * (points.ys[c] - points.ys[b])
                    - (points.ys[b] - points.ys[a]) * (points.xs[c] - points.xs[b]);
        }

        int twiceArea(Points points) {
            int sum = 0;
            for (int i = 0; i < count; i++) {
                int a = row[i];
                int b = row[i + 1 < count ? i + 1 : 0];
                sum += points.xs[a] * points.ys[b] - points.xs[b] * points.ys[a];
            }
            return sum;
        }
    }

    /** How far POINTS are from one another along the TREE. */
    static final class Ways {
        final int[][] far = new int[MOST][MOST];

        Ways() {
        }

        /** By ROOTS of the links' APART, or by how many links. */
        void measure(Order order, boolean byRoots) {
            for (int p = 0; p < order.points.count; p++) {
                far[p][p] = 0;
            }
            for (int j = 0; j < order.count; j++) {
                link(order, j, byRoots ? order.roots[j] : 1);
            }
        }

        private void link(Order order, int join, int length) {
            int here = order.setOf(order.firstSides[join]);
            int there = order.setOf(order.otherSides[join]);
            int first = order.firsts[join];
            int second = order.seconds[join];
            if (first < 0 || first >= MOST || second < 0 || second >= MOST) {
                return;
            }
            for (int p = 0; p < order.points.count; p++) {
                for (int q = 0; q < order.points.count && Sets.has(here, p); q++) {
                    if (Sets.has(there, q)) {
                        far[p][q] = far[p][first] + length + far[second][q];
                        far[q][p] = far[p][q];
                    }
                }
            }
        }
    }

    /** BEST. */
    static final class Lasting {
        int total = 0;
        int count = 0;
        private final int[] totals = new int[MOST];
        // Whether the JOIN itself is as good as both its SIDES' own BEST.
        private final boolean[] whole = new boolean[MOST];
        private final boolean[] open = new boolean[MOST];
        private final int[] nodesByLeast = new int[MOST];

        Lasting() {
        }

        void choose(Order order) {
            total = 0;
            count = 0;
            for (int i = 0; i < order.points.count; i++) {
                nodesByLeast[i] = NONE;
            }
            for (int j = 0; j < order.count; j++) {
                int own = order.lastsOf(JOIN_NODE + j);
                int sides = sidesTotal(order, j);
                totals[j] = Math.max(own, sides);
                whole[j] = own >= sides;
                open[j] = j == order.count - 1;
            }
            if (order.count > 0) {
                total = totals[order.count - 1];
                chooseJoins(order);
            } else if (order.points.count > 0) {
                put(order, 0);
            }
        }

        private int sidesTotal(Order order, int join) {
            return totalOf(order, order.firstSides[join]) + totalOf(order, order.otherSides[join]);
        }

        private int totalOf(Order order, int node) {
            int join = Order.joinOf(node);
            return join != NONE ? totals[join] : order.lastsOf(node);
        }

        private void chooseJoins(Order order) {
            for (int j = order.count - 1; j >= 0; j--) {
                if (open[j]) {
                    if (whole[j]) {
                        put(order, JOIN_NODE + j);
                    } else {
                        openNode(order, order.firstSides[j]);
                        openNode(order, order.otherSides[j]);
                    }
                }
            }
        }

        private void openNode(Order order, int node) {
            int join = Order.joinOf(node);
            if (join != NONE) {
                open[join] = true;
            } else {
                put(order, node);
            }
        }

        private void put(Order order, int node) {
            int least = Sets.least(order.setOf(node));
            if (least >= 0 && least < MOST) {
                nodesByLeast[least] = node;
                count++;
            }
        }

        int nth(int n, int points) {
            int passed = 0;
            for (int i = 0; i < points; i++) {
                if (nodesByLeast[i] != NONE) {
                    if (passed == n) {
                        return nodesByLeast[i];
                    }
                    passed++;
                }
            }
            return NONE;
        }
    }
}
