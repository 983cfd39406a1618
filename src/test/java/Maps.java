/** Maps whose answers can be worked out by hand: what the tests of boundary cases share. */
final class Maps {
    private Maps() {
    }

    /** A new object with POINTS: x, y, WEIGHT of each. */
    static ScaleGroups of(int... numbers) {
        ScaleGroups map = new ScaleGroups();
        for (int i = 0; i + 2 < numbers.length; i += 3) {
            map.add(numbers[i], numbers[i + 1], numbers[i + 2]);
        }
        return map;
    }

    /** POINTS with y 0, each of WEIGHT 1. */
    static ScaleGroups line(int... xs) {
        ScaleGroups map = new ScaleGroups();
        for (int x : xs) {
            map.add(x, 0, 1);
        }
        return map;
    }

    /**
     * POINTS 0 (0, 0) of 5, 1 (0, 30) of 2, 2 (10, 0) of 3, 3 (500, 500) of 7. JOINS: 0 of 0 and 2 (100, ROOT 10),
     * 1 of 0 and 1 (900, ROOT 30), 2 of 1 and 3 (470900, ROOT 686). GROUPS: one of z 0; POINTS 0 to 2 and POINT 3
     * of z 1 to 5; POINTS 0 and 2, POINT 1, POINT 3 of z 6; four of z 7 on. The POINT that came last was (0, 30): its
     * two JOINS are NEW, one of 490100 is GONE.
     */
    static ScaleGroups corner() {
        return of(500, 500, 7, 10, 0, 3, 0, 0, 5, 0, 30, 2);
    }

    /** POINTS at the corners of the map: 0 (0, 0) of 1, 1 (0, 1023) of 3, 2 (1023, 0) of 2, 3 (1023, 1023) of 4. */
    static ScaleGroups fourCorners() {
        return of(0, 0, 1, 1023, 0, 2, 0, 1023, 3, 1023, 1023, 4);
    }

    /** 24 POINTS with x 512, 44 from one another from (512, 5) to (512, 1017), all of WEIGHT 99. */
    static ScaleGroups tower() {
        ScaleGroups map = new ScaleGroups();
        for (int i = 0; i < 24; i++) {
            map.add(512, 5 + 44 * i, 99);
        }
        return map;
    }

    /** 24 POINTS from (0, 0) to (552, 552), 24 by x and by y from one another, all of WEIGHT 1. */
    static ScaleGroups slope() {
        ScaleGroups map = new ScaleGroups();
        for (int i = 23; i >= 0; i--) {
            map.add(24 * i, 24 * i, 1);
        }
        return map;
    }

    /** 24 POINTS in 6 columns of 4, 10 from one another: POINT 4 c + r lies at (10 c, 10 r), of WEIGHT 1. */
    static ScaleGroups grid() {
        ScaleGroups map = new ScaleGroups();
        for (int i = 0; i < 24; i++) {
            // in an order that is not that of their numbers
            int point = 7 * i % 24;
            map.add(10 * (point / 4), 10 * (point % 4), 1);
        }
        return map;
    }
}
