import java.util.ArrayList;
import java.util.List;
import java.util.function.Consumer;
import java.util.function.Supplier;
import java.util.function.ToIntFunction;

/**
 * A refused call changes nothing that later calls show: an object to which it was made answers all that is asked then,
 * and after what comes and goes then, as one to which it was not made. So do calls that change other things than
 * POINTS leave alone what the latest REPAIR was.
 */
public final class Refused {
    private static final int NONE = Due.NONE;
    private static final int LEAST = Due.LEAST;
    private static final int MOST = Due.MOST;
    private static final int NO_WOULD = NONE - 9999999;
    private static final Due due = new Due("Refused");

    private record Call(int promise, String text, ToIntFunction<ScaleGroups> asked, int none) {
    }

    /** What comes and goes after the refused call. */
    private static final List<Consumer<ScaleGroups>> LATER = List.of(map -> { }, map -> map.add(601, 599, 3),
            map -> map.take(0), map -> map.scatter(2), map -> map.clear());

    private final String name;
    private final Supplier<ScaleGroups> maker;
    private final int count;
    private final List<Call> calls = new ArrayList<>();

    private Refused(String name, Supplier<ScaleGroups> maker) {
        this.name = name;
        this.maker = maker;
        count = maker.get().look(0);
        changes();
        pointsAndJoins();
        ways();
        groups();
        membersAndSplits();
        windows();
        places();
        tiles();
        parts();
        labels();
        repairs();
    }

    public static void main(String[] args) {
        new Refused("a new object", ScaleGroups::new).run();
        new Refused("one POINT", () -> Maps.of(300, 700, 9)).run();
        new Refused("four by add", Maps::corner).run();
        new Refused("three by take", Refused::taken).run();
        new Refused("none by clear", Refused::cleared).run();
        new Refused("nine by scatter", Refused::scattered).run();
        new Refused("four after scatter of none", Refused::scatteredInVain).run();
        new Refused("23", Refused::oneLess).run();
        new Refused("24", Maps::tower).run();
        due.allTested(2, 5);
        due.allTested(8, 40);
        valuesStay();
        repairStays();
        due.end();
    }

    private static ScaleGroups taken() {
        ScaleGroups map = Maps.corner();
        map.take(1);
        return map;
    }

    private static ScaleGroups cleared() {
        ScaleGroups map = Maps.corner();
        map.size(500);
        map.clear();
        return map;
    }

    private static ScaleGroups scattered() {
        ScaleGroups map = Maps.of(300, 700, 9);
        map.state(99);
        map.scatter(8);
        return map;
    }

    private static ScaleGroups scatteredInVain() {
        ScaleGroups map = Maps.of(755, 41, 1, 755, 40, 2, 0, 0, 3, 7, 7, 4);
        map.scatter(1);
        return map;
    }

    private static ScaleGroups oneLess() {
        ScaleGroups map = Maps.tower();
        map.take(12);
        return map;
    }

    // ---- the refused calls

    private void refuse(int promise, String text, ToIntFunction<ScaleGroups> asked) {
        calls.add(new Call(promise, text, asked, NONE));
    }

    private void changes() {
        for (int v : new int[] {-1, 1024, LEAST, MOST}) {
            refuse(2, "add(" + v + ", 5, 1)", map -> map.add(v, 5, 1));
            refuse(2, "add(5, " + v + ", 1)", map -> map.add(5, v, 1));
        }
        for (int w : new int[] {0, 100, -1, LEAST, MOST}) {
            refuse(2, "add(5, 5, " + w + ")", map -> map.add(5, 5, w));
            refuse(4, "weigh(0, " + w + ")", map -> map.weigh(0, w));
        }
        for (int p : new int[] {-1, count, 24, LEAST, MOST}) {
            refuse(3, "take(" + p + ")", map -> map.take(p));
            refuse(4, "weigh(" + p + ", 50)", map -> map.weigh(p, 50));
        }
        if (count > 0) {
            refuse(2, "add at POINT 0", map -> map.add(map.point(0, 0), map.point(0, 1), 50));
            refuse(2, "add at the last POINT", map -> map.add(map.point(count - 1, 0), map.point(count - 1, 1), 50));
        }
        if (count == 24) {
            refuse(2, "add(5, 5, 5) of the 25th", map -> map.add(5, 5, 5));
        }
        for (int n : new int[] {0, 25, -1, LEAST, MOST}) {
            refuse(5, "scatter(" + n + ")", map -> map.scatter(n));
        }
        for (int v : new int[] {-1, 1000, LEAST, MOST}) {
            refuse(8, "size(" + v + ")", map -> map.size(v));
        }
    }

    private void pointsAndJoins() {
        for (int p : new int[] {-1, count, LEAST, MOST}) {
            refuse(9, "point(" + p + ", 0)", map -> map.point(p, 0));
            refuse(11, "near(0, 0, " + p + ")", map -> map.near(0, 0, p));
            refuse(12, "join(" + p + ", 0)", map -> map.join(p, 0));
            refuse(13, "meets(" + p + ", 0)", map -> map.meets(p, 0));
            refuse(13, "meets(0, " + p + ")", map -> map.meets(0, p));
        }
        refuse(9, "point(0, -1)", map -> map.point(0, -1));
        refuse(9, "point(0, 6)", map -> map.point(0, 6));
        refuse(10, "at(1001, 1)", map -> map.at(1001, 1));
        refuse(10, "at(-1, 1024)", map -> map.at(-1, 1024));
        refuse(11, "near(10000, 0, 0)", map -> map.near(10000, 0, 0));
        refuse(11, "near(0, -10000, 0)", map -> map.near(0, -10000, 0));
        refuse(12, "join(0, -1)", map -> map.join(0, -1));
        refuse(12, "join(0, 10)", map -> map.join(0, 10));
        refuse(13, "meets(0, 0)", map -> map.meets(0, 0));
    }

    private void ways() {
        for (int p : new int[] {-1, count, LEAST, MOST}) {
            refuse(14, "path(" + p + ", 0, 0)", map -> map.path(p, 0, 0));
            refuse(14, "path(0, " + p + ", NONE)", map -> map.path(0, p, NONE));
            refuse(16, "zoom(" + p + ", 0)", map -> map.zoom(p, 0));
            refuse(16, "zoom(0, " + p + ")", map -> map.zoom(0, p));
        }
        refuse(14, "path(0, 0, 1)", map -> map.path(0, 0, 1));
        refuse(14, "path(0, 0, -2)", map -> map.path(0, 0, -2));
        refuse(15, "longest(-1)", map -> map.longest(-1));
        refuse(15, "longest(3)", map -> map.longest(3));
        refuse(16, "zoom(0, 0)", map -> map.zoom(0, 0));
    }

    private void groups() {
        for (int z : new int[] {-1, 11, LEAST, MOST}) {
            refuse(17, "groups(" + z + ")", map -> map.groups(z));
            refuse(18, "groupOf(" + z + ", 0)", map -> map.groupOf(z, 0));
            refuse(19, "group(" + z + ", 0, 0)", map -> map.group(z, 0, 0));
        }
        for (int g : new int[] {-1, count, LEAST, MOST}) {
            refuse(18, "groupOf(5, " + g + ")", map -> map.groupOf(5, g));
            refuse(19, "group(5, " + g + ", 0)", map -> map.group(5, g, 0));
        }
        refuse(19, "group(5, 0, -1)", map -> map.group(5, 0, -1));
        refuse(19, "group(5, 0, 13)", map -> map.group(5, 0, 13));
    }

    private void membersAndSplits() {
        for (int z : new int[] {-1, 11, LEAST, MOST}) {
            refuse(20, "member(" + z + ", 0, 0)", map -> map.member(z, 0, 0));
            refuse(21, "splits(" + z + ", 0, 0)", map -> map.splits(z, 0, 0));
        }
        for (int g : new int[] {-1, count, LEAST, MOST}) {
            refuse(20, "member(5, " + g + ", 0)", map -> map.member(5, g, 0));
            refuse(20, "member(5, 0, " + g + ")", map -> map.member(5, 0, g));
            refuse(21, "splits(5, " + g + ", 0)", map -> map.splits(5, g, 0));
            refuse(21, "splits(5, 0, " + g + ")", map -> map.splits(5, 0, g));
        }
        refuse(21, "splits(10, 0, 0)", map -> map.splits(10, 0, 0));
    }

    private void windows() {
        for (int z : new int[] {-1, 11, LEAST, MOST}) {
            refuse(22, "window(" + z + ", whole, 0)", map -> map.window(z, 0, 1023, 0, 1023, 0));
            refuse(23, "top(" + z + ", whole, 0)", map -> map.top(z, 0, 1023, 0, 1023, 0));
        }
        for (int v : new int[] {-1, 4, LEAST, MOST}) {
            refuse(22, "window(5, whole, " + v + ")", map -> map.window(5, 0, 1023, 0, 1023, v));
        }
        for (int i : new int[] {-1, count, LEAST, MOST}) {
            refuse(23, "top(5, whole, " + i + ")", map -> map.top(5, 0, 1023, 0, 1023, i));
        }
        refuse(23, "top(5, 9, 8, 0, 1023, 0)", map -> map.top(5, 9, 8, 0, 1023, 0));
    }

    private void places() {
        for (int z : new int[] {-1, 11, LEAST, MOST}) {
            refuse(24, "filled(" + z + ", NONE)", map -> map.filled(z, NONE));
            refuse(25, "densest(" + z + ", 0)", map -> map.densest(z, 0));
            refuse(26, "cover(" + z + ", 0)", map -> map.cover(z, 0));
            refuse(27, "outline(" + z + ", 0, 0)", map -> map.outline(z, 0, 0));
            refuse(28, "area(" + z + ", 0)", map -> map.area(z, 0));
            refuse(29, "drift(" + z + ")", map -> map.drift(z));
        }
        for (int g : new int[] {-1, count, LEAST, MOST}) {
            refuse(26, "cover(5, " + g + ")", map -> map.cover(5, g));
            refuse(27, "outline(5, " + g + ", NONE)", map -> map.outline(5, g, NONE));
            refuse(28, "area(5, " + g + ")", map -> map.area(5, g));
        }
        for (int i : new int[] {-2, count, LEAST, MOST}) {
            refuse(24, "filled(5, " + i + ")", map -> map.filled(5, i));
            refuse(27, "outline(5, 0, " + i + ")", map -> map.outline(5, 0, i));
        }
        refuse(25, "densest(5, -1)", map -> map.densest(5, -1));
        refuse(25, "densest(5, 4)", map -> map.densest(5, 4));
        refuse(29, "drift(10)", map -> map.drift(10));
    }

    private void tiles() {
        for (int z : new int[] {-1, 11, LEAST, MOST}) {
            refuse(30, "tile(" + z + ", 0, 0, 0)", map -> map.tile(z, 0, 0, 0));
        }
        for (int v : new int[] {-1, 32, LEAST, MOST}) {
            refuse(30, "tile(5, " + v + ", 0, 0)", map -> map.tile(5, v, 0, 0));
            refuse(30, "tile(5, 0, " + v + ", 0)", map -> map.tile(5, 0, v, 0));
            refuse(30, "tile(5, 0, 0, " + v + ")", map -> map.tile(5, 0, 0, v));
        }
    }

    private void parts() {
        for (int k : new int[] {0, -1, count + 1, LEAST, MOST}) {
            refuse(31, "part(" + k + ", 0)", map -> map.part(k, 0));
        }
        for (int p : new int[] {-1, count, LEAST, MOST}) {
            refuse(31, "part(1, " + p + ")", map -> map.part(1, p));
        }
        if (count < 3) {
            refuse(32, "clearest()", map -> map.clearest());
        }
        for (int what : new int[] {-1, 2, 9, 10 + count, 34, LEAST, MOST}) {
            refuse(33, "best(" + what + ")", map -> map.best(what));
        }
    }

    private void labels() {
        for (int z : new int[] {-1, 11, LEAST, MOST}) {
            refuse(34, "shown(" + z + ")", map -> map.shown(z));
            refuse(35, "label(" + z + ", 0, 0)", map -> map.label(z, 0, 0));
            refuse(36, "counted(" + z + ", 0)", map -> map.counted(z, 0));
        }
        for (int g : new int[] {-1, count, LEAST, MOST}) {
            refuse(35, "label(5, " + g + ", 0)", map -> map.label(5, g, 0));
            refuse(36, "counted(5, " + g + ")", map -> map.counted(5, g));
        }
        refuse(35, "label(5, 0, -1)", map -> map.label(5, 0, -1));
        refuse(35, "label(5, 0, 3)", map -> map.label(5, 0, 3));
    }

    private void repairs() {
        for (int what : new int[] {-1, 4, LEAST, MOST}) {
            calls.add(new Call(37, "repaired(" + what + ")", map -> map.repaired(what), NONE - 1));
        }
        for (int v : new int[] {-1, 1024, LEAST, MOST}) {
            calls.add(new Call(38, "would(" + v + ", 5, 0)", map -> map.would(v, 5, 0), NO_WOULD));
            calls.add(new Call(38, "would(5, " + v + ", 1)", map -> map.would(5, v, 1), NO_WOULD));
        }
        for (int what : new int[] {-1, 2, LEAST, MOST}) {
            calls.add(new Call(38, "would(5, 5, " + what + ")", map -> map.would(5, 5, what), NO_WOULD));
        }
        if (count > 0) {
            calls.add(new Call(38, "would at POINT 0", map -> map.would(map.point(0, 0), map.point(0, 1), 0),
                    NO_WOULD));
        }
        if (count == 24) {
            calls.add(new Call(38, "would(5, 5, 0) of the 25th", map -> map.would(5, 5, 0), NO_WOULD));
        }
        for (int z : new int[] {-1, 11, LEAST, MOST}) {
            refuse(39, "stirred(" + z + ")", map -> map.stirred(z));
        }
        for (int what : new int[] {-1, 9, LEAST, MOST}) {
            calls.add(new Call(40, "look(" + what + ")", map -> map.look(what), NONE - 9));
        }
    }

    // ---- what is held against what

    private void run() {
        for (Consumer<ScaleGroups> later : LATER) {
            ScaleGroups without = maker.get();
            later.accept(without);
            List<Integer> want = all(without);
            for (Call call : calls) {
                due.promise(call.promise);
                ScaleGroups map = maker.get();
                due.is(call.text + ", " + name, call.asked.applyAsInt(map), call.none);
                later.accept(map);
                compare(call.text, all(map), want);
            }
        }
        afterAll();
    }

    /** All of them, one after another, as far as the calls of an object reach. */
    private void afterAll() {
        List<Integer> want = all(maker.get());
        int reach = 512 - 2 * 24 - want.size();
        for (int from = 0; from < calls.size(); from += reach / 4) {
            ScaleGroups map = maker.get();
            for (Call call : calls.subList(from, Math.min(calls.size(), from + reach / 4))) {
                call.asked.applyAsInt(map);
            }
            compare("many refused calls", all(map), want);
        }
    }

    private void compare(String call, List<Integer> got, List<Integer> want) {
        due.is(call + ", " + name + ": how many answers then", got.size(), want.size());
        for (int i = 0; i < want.size() && i < got.size(); i++) {
            due.is(call + ", " + name + ": answer " + i + " of all that is asked then", got.get(i), want.get(i));
        }
    }

    /** Some 400 answers, in which POINTS, JOINS, SIZE, STATE and the latest REPAIR show. */
    private static List<Integer> all(ScaleGroups map) {
        List<Integer> answers = new ArrayList<>();
        for (int what = 0; what <= 8; what++) {
            answers.add(map.look(what));
        }
        int count = map.look(0);
        for (int i = 0; i < count; i++) {
            for (int what = 0; what <= 5; what++) {
                answers.add(map.point(i, what));
            }
        }
        for (int j = 0; j < count - 1; j++) {
            for (int what = 0; what <= 9; what++) {
                answers.add(map.join(j, what));
            }
        }
        for (int what = 0; what <= 3; what++) {
            answers.add(map.repaired(what));
        }
        for (int z = 0; z <= 10; z++) {
            answers.add(map.stirred(z));
        }
        answers.add(map.shown(5));
        answers.add(map.best(0));
        answers.add(map.clearest());
        return answers;
    }

    // ---- by hand

    private static void valuesStay() {
        ScaleGroups map = Maps.corner();
        map.size(300);
        map.state(77);
        map.size(1000);
        map.size(-1);
        due.promise(8);
        due.is("look(2) after refused sizes", map.look(2), 300);
        map.scatter(25);
        map.scatter(0);
        due.promise(5);
        due.is("look(3) after refused scatters", map.look(3), 77);
        map.weigh(0, 100);
        map.weigh(0, 0);
        map.weigh(4, 50);
        due.promise(4);
        due.row("point(point, 2) after refused weighs", p -> map.point(p, 2), 0, 5, 2, 3, 7);
        map.add(0, 0, 99);
        map.add(3, 3, 0);
        map.add(3, 1024, 3);
        map.take(4);
        map.take(-1);
        due.promise(3);
        due.row("point(point, 0) after refused adds and takes", p -> map.point(p, 0), 0, 0, 0, 10, 500, NONE);
        due.row("look after refused calls", what -> map.look(what), 0, 4, 17, 300, 77, 471900);
        map.would(3, 3, 0);
        due.promise(38);
        due.is("at(3, 3), where one would be", map.at(3, 3), NONE);
        due.is("look(0) after would", map.look(0), 4);
        due.is("look(4) after would", map.look(4), 471900);
    }

    /** The last to come was POINT 1: JOINS 1 and 2 are NEW till something comes or goes again. */
    private static void repairStays() {
        ScaleGroups map = Maps.corner();
        List<Consumer<ScaleGroups>> other = List.of(m -> m.weigh(0, 99), m -> m.size(5), m -> m.state(-5),
                m -> m.would(7, 7, 0), m -> m.repaired(9), m -> m.stirred(3), m -> m.add(0, 30, 1), m -> m.take(9),
                m -> m.scatter(99));
        for (Consumer<ScaleGroups> call : other) {
            call.accept(map);
            due.promise(37);
            due.row("repaired, after another call", what -> map.repaired(what), 0, 2, 1, -18300, 1);
            due.promise(12);
            due.row("join(join, 9), after another call", j -> map.join(j, 9), 0, 0, 1, 1);
        }
        ScaleGroups stirred = Maps.line(0, 200, 100);
        stirred.weigh(0, 9);
        stirred.add(100, 0, 1);
        stirred.take(3);
        stirred.scatter(0);
        due.promise(39);
        due.is("stirred(3) of the latest that came", stirred.stirred(3), 1);
        // What follows is measured from what was there ahead of it, not ahead of the refused ones.
        stirred.add(201, 0, 1);
        due.is("stirred(3) of the next that came", stirred.stirred(3), 0);
        due.promise(37);
        due.row("repaired by the next", what -> stirred.repaired(what), 0, 1, 0, 1, 0);
    }
}
