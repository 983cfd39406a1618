/**
 * Where the int wraps: STATE as it is told and drawn, and DRAWS that are of its highest 24 bits without sign. The
 * STATES were found backwards from what they become.
 */
public final class Wraps {
    private static final int LEAST = Due.LEAST;
    private static final int MOST = Due.MOST;
    private static final Due due = new Due("Wraps");

    public static void main(String[] args) {
        told();
        // What is drawn first: 0, the lowest 8 bits alone, one more, the greatest int, the least one, -256, -1.
        drawn(634785765, 1196435762, 0, 755, 85);
        drawn(122584096, 1752462729, 0, 922, 5);
        drawn(103732453, 2142032434, 1, 256, 33);
        drawn(-1493846240, -1340617591, 1023, 397, 98);
        drawn(-1512697883, -951047886, 0, 755, 27);
        drawn(1165839077, 250839090, 1023, 230, 38);
        drawn(653637408, 806866057, 1023, 397, 57);
        // What is drawn second: 0, the least int, -1.
        drawn(-144243938, 1013904223, 527, 0, 69);
        drawn(2003239710, -1133579425, 527, 0, 11);
        drawn(-1814103163, 1012239698, 439, 1023, 2);
        // What is drawn third: 0; then 98 and 99, for WEIGHTS 99 and 1; the greatest int, the least one, -1.
        drawn(1869465083, 0, 771, 527, 1);
        drawn(-1365893125, 98 * 256, 917, 377, 99);
        drawn(182217790, 98 * 256 + 255, 806, 486, 99);
        drawn(-653861637, 99 * 256, 814, 574, 1);
        drawn(558060862, MOST, 763, 439, 41);
        drawn(-278018565, LEAST, 771, 527, 42);
        drawn(-1589422786, -1, 763, 439, 82);
        // From the greatest int, the least one, and those beside 0.
        drawn(MOST, -1568412588, 397, 972, 86);
        drawn(LEAST, 1372387049, 755, 41, 37);
        drawn(-1, 579071060, 397, 972, 45);
        drawn(0, -775096599, 755, 41, 78);
        drawn(1, -2129264258, 89, 133, 30);
        manyDraws();
        sameStateAgain();
        due.allTested(5, 6);
        due.end();
    }

    private static void told() {
        ScaleGroups map = new ScaleGroups();
        due.promise(6);
        due.is("state(MOST)", map.state(MOST), 0);
        due.is("state(MOST and 1)", map.state(MOST + 1), MOST);
        due.is("state(LEAST less 1)", map.state(LEAST - 1), LEAST);
        due.is("state(-1)", map.state(-1), MOST);
        due.is("state(0)", map.state(0), -1);
        due.promise(40);
        due.is("look(3)", map.look(3), 0);
    }

    /** From a STATE one POINT is scattered: where it lies, its WEIGHT, and the STATE then. */
    private static void drawn(int state, int after, int x, int y, int weight) {
        ScaleGroups map = new ScaleGroups();
        String from = " from STATE " + state;
        due.promise(6);
        due.is("state" + from, map.state(state), 0);
        due.promise(5);
        due.is("scatter(1)" + from, map.scatter(1), 1);
        due.is("point(0, 0)" + from, map.point(0, 0), x);
        due.is("point(0, 1)" + from, map.point(0, 1), y);
        due.is("point(0, 2)" + from, map.point(0, 2), weight);
        due.promise(40);
        due.is("look(3)" + from, map.look(3), after);
        due.promise(6);
        due.is("state(0)" + from, map.state(0), after);
    }

    /** Three DRAWS for each of 24: the STATE wraps about every time. */
    private static void manyDraws() {
        ScaleGroups map = new ScaleGroups();
        due.promise(5);
        due.is("scatter(24)", map.scatter(24), 24);
        due.is("look(3) after 72 DRAWS", map.look(3), -531148568);
        long state = 0;
        for (int i = 0; i < 24; i++) {
            int[] drawn = new int[3];
            for (int d = 0; d < 3; d++) {
                state = (1664525 * state + 1013904223) & 0xffffffffL;
                drawn[d] = (int) (state / 256 % (d < 2 ? 1024 : 99));
            }
            int point = map.at(drawn[0], drawn[1]);
            due.is("point(the " + i + "-th drawn, 2)", map.point(point, 2), drawn[2] + 1);
        }
    }

    /** What is drawn depends on STATE alone. */
    private static void sameStateAgain() {
        ScaleGroups map = new ScaleGroups();
        map.state(LEAST);
        map.scatter(1);
        map.clear();
        map.add(755, 41, 1);
        due.promise(6);
        due.is("state(LEAST) again", map.state(LEAST), 1372387049);
        due.promise(5);
        due.is("scatter(1) at the same place", map.scatter(1), 0);
        due.is("point(0, 2)", map.point(0, 2), 1);
        due.is("look(3)", map.look(3), 1372387049);
    }
}
