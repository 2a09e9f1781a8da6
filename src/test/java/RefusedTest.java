import java.util.ArrayList;
import java.util.List;
import java.util.function.Supplier;
import java.util.function.ToLongFunction;

/**
 * Calls that are refused answer the first refusal that fits and change nothing: of two objects with the same calls
 * behind them one is asked what is refused, then all that can be shown of both is compared. Questions change nothing
 * either.
 */
public final class RefusedTest {
    private static final int UNKNOWN = -1, OUTSIDE = -2, STATE = -3, FULL = -4, NO = -5;
    private static final long LOST = -1000000000000000000L;
    private static final int FAR = Integer.MAX_VALUE, DEEP = Integer.MIN_VALUE;

    /** A call, and the refusal that is due. */
    private record Refused(String name, ToLongFunction<EatenMaps> call, long refusal) { }

    private final Due due = new Due();

    public static void main(String[] args) {
        RefusedTest test = new RefusedTest();
        test.statesAreAsNamed();
        test.everywhere("a new object", EatenMaps::new);
        test.everywhere("nights that can be", RefusedTest::withNights);
        test.everywhere("a fault on the pad", RefusedTest::withFault);
        test.everywhere("an act that can not be", RefusedTest::withActThatCanNotBe);
        test.everywhere("all is full", RefusedTest::full);
        test.everywhere("night 99", RefusedTest::late);
        test.ofNew();
        test.withMoths();
        test.withoutNights();
        test.ofAFault();
        test.ofFull();
        test.ofOneImage();
        test.due.end();
    }

    /** Towns, holes, water, camphor, three moths, sights, two images of other days, an empty pad. */
    private static EatenMaps rich() {
        EatenMaps maps = new EatenMaps();
        maps.seen(3, 20);
        maps.camphor(20, 6);
        maps.image(1);
        maps.land(6, 4);
        maps.land(12, 4);
        maps.land(17, 0);
        maps.land(22, 3);
        maps.land(24, 5);
        maps.moth(0, 0, 1);
        maps.moth(1, 24, 3);
        maps.moth(3, 12, 0);
        maps.spool(2, 1);
        maps.spool(3, 40);
        maps.seen(0, 20);
        Due.doNights(maps, "+b.Bn.");
        maps.image(0);
        maps.camphor(3, 9);
        Due.doNights(maps, ".Dn.");
        maps.seen(2, 10);
        return maps;
    }

    private static EatenMaps withNights() {
        EatenMaps maps = rich();
        Due.write(maps, "+a.Aw.%r2D!.");
        return maps;
    }

    private static EatenMaps withFault() {
        EatenMaps maps = rich();
        Due.write(maps, "+a.Aw.%r2D");
        return maps;
    }

    private static EatenMaps withActThatCanNotBe() {
        EatenMaps maps = rich();
        Due.write(maps, "+a.Aw.%r2%r2.");
        return maps;
    }

    /** Holes everywhere, four moths, eight sights, 60 signs that can be done; one image alone. */
    private static EatenMaps full() {
        EatenMaps maps = Due.painted("0".repeat(25));
        for (int moth = 0; moth < 4; moth++) {
            maps.moth(moth, 8 * moth, 0);
        }
        maps.image(0);
        for (int i = 0; i < 8; i++) {
            maps.seen(8 * (i % 2), i % 2 == 0 ? 12 : 10);
        }
        Due.write(maps, "AeAsAwAnBeBsBwBnCeCsCwCnDeDsDwDn+a.+b.+c.+d.%m1.............");
        return maps;
    }

    private static EatenMaps late() {
        EatenMaps maps = Due.atNight(99);
        maps.moth(2, 7, 1);
        Due.write(maps, "Cn.");
        return maps;
    }

    private void statesAreAsNamed() {
        due.of("the states themselves");
        due.is("fault() of nights that can be", -6, withNights().fault());
        due.is("done() of nights that can be", 7, withNights().done());
        due.is("fault() of a fault", 10, withFault().fault());
        due.is("judge(0) of an act that can not be", 5, withActThatCanNotBe().judge(0));
        due.is("judge(1) of an act that can not be", 4, withActThatCanNotBe().judge(1));
        due.is("told(0) of a full one", 60, full().told(0));
        due.is("told(1) of a full one", 15, full().told(1));
        due.is("told(3) of a full one", 25, full().told(3));
        due.is("told(4) of a full one", 8, full().told(4));
        due.is("done() of a full one", 38, full().done());
        due.is("judge(1) of a late one", 6, late().judge(1));
    }

    /** All that can be shown: the answers of many calls, some of which change it. */
    private static List<Long> show(EatenMaps maps) {
        List<Long> shown = new ArrayList<>();
        showTold(maps, shown);
        showNights(maps, shown);
        showQuestions(maps, shown);
        shown.add((long) maps.done());
        for (int what = 0; what <= 4; what++) {
            shown.add((long) maps.told(what));
        }
        shown.add((long) maps.say('.'));
        shown.add((long) maps.wipe());
        for (int n = 0; n <= 1; n++) {
            shown.add((long) maps.restore(n));
            showTold(maps, shown);
            shown.add((long) maps.began(-1));
        }
        for (int i = 0; i < 9; i++) {
            shown.add((long) maps.seen(0, 0));
        }
        return shown;
    }

    private static void showTold(EatenMaps maps, List<Long> shown) {
        for (int what : new int[] {0, 1, 2, 3, 4, 11, 12, 13, 20, 21, 22, 23, 30, 31, 32, 33}) {
            shown.add((long) maps.told(what));
        }
        for (int cell = 0; cell < 25; cell++) {
            shown.add((long) maps.told(100 + cell));
            shown.add((long) maps.told(200 + cell));
        }
    }

    private static void showNights(EatenMaps maps, List<Long> shown) {
        shown.add((long) maps.fault());
        shown.add((long) maps.judge(0));
        shown.add((long) maps.judge(1));
        for (int what = 0; what <= 4; what++) {
            shown.add((long) maps.then(what));
        }
        for (int moth = 0; moth < 4; moth++) {
            shown.add((long) maps.flies(moth, 0));
            shown.add((long) maps.flies(moth, 1));
        }
    }

    private static void showQuestions(EatenMaps maps, List<Long> shown) {
        shown.add((long) maps.began(-1));
        shown.add((long) maps.began(0));
        shown.add((long) maps.ask(0));
        shown.add((long) maps.ask(1));
        shown.add((long) maps.road(0, 24));
        shown.add((long) maps.whole(0, 24, 0));
        shown.add((long) maps.camphored(2, 1));
        shown.add((long) maps.darned(0));
        shown.add((long) maps.sheet(1111, 0));
        shown.add((long) maps.year(77, 60, 0));
    }

    private void refused(String state, Supplier<EatenMaps> made, Refused one) {
        due.of("refused, " + state);
        EatenMaps maps = made.get();
        due.is(one.name, one.refusal, one.call.applyAsLong(maps));
        due.is(one.name + ", again", one.refusal, one.call.applyAsLong(maps));
        due.is(one.name + " changes nothing", 1, show(maps).equals(show(made.get())) ? 1 : 0);
    }

    private void refused(String state, Supplier<EatenMaps> made, List<Refused> all) {
        for (Refused one : all) {
            refused(state, made, one);
        }
    }

    /** What is refused in any state, and what only asks. */
    private void everywhere(String state, Supplier<EatenMaps> made) {
        refused(state, made, unknowns());
        refused(state, made, unknownsAheadOfOutside());
        refused(state, made, outsides());
        refused(state, made, coffees());
        due.of("questions, " + state);
        for (ToLongFunction<EatenMaps> question : questions()) {
            EatenMaps maps = made.get();
            long answer = question.applyAsLong(maps);
            due.is("a question, asked again", answer, question.applyAsLong(maps));
            due.is("a question changes nothing", 1, show(maps).equals(show(made.get())) ? 1 : 0);
        }
    }

    private static List<Refused> unknowns() {
        List<Refused> all = new ArrayList<>();
        for (int cell : new int[] {-1, 25, FAR, DEEP}) {
            all.add(new Refused("land(" + cell + ", 0)", m -> m.land(cell, 0), UNKNOWN));
            all.add(new Refused("camphor(" + cell + ", 1)", m -> m.camphor(cell, 1), UNKNOWN));
            all.add(new Refused("moth(2, " + cell + ", 1)", m -> m.moth(2, cell, 1), UNKNOWN));
            all.add(new Refused("behind(" + cell + ", 0)", m -> m.behind(cell, 0), UNKNOWN));
            all.add(new Refused("road(" + cell + ", 0)", m -> m.road(cell, 0), UNKNOWN));
            all.add(new Refused("road(0, " + cell + ")", m -> m.road(0, cell), UNKNOWN));
            all.add(new Refused("whole(" + cell + ", 0, 0)", m -> m.whole(cell, 0, 0), UNKNOWN));
            all.add(new Refused("whole(0, " + cell + ", 0)", m -> m.whole(0, cell, 0), UNKNOWN));
            all.add(new Refused("camphored(" + cell + ", 0)", m -> m.camphored(cell, 0), UNKNOWN));
            all.add(new Refused("seen(1, " + cell + ")", m -> m.seen(1, cell), UNKNOWN));
        }
        for (int moth : new int[] {-1, 4, FAR, DEEP}) {
            all.add(new Refused("moth(" + moth + ", 5, 1)", m -> m.moth(moth, 5, 1), UNKNOWN));
            all.add(new Refused("flies(" + moth + ", 1)", m -> m.flies(moth, 1), UNKNOWN));
        }
        for (int thread : new int[] {-1, 0, 4, FAR, DEEP}) {
            all.add(new Refused("spool(" + thread + ", 3)", m -> m.spool(thread, 3), UNKNOWN));
        }
        return all;
    }

    private static List<Refused> unknownsAheadOfOutside() {
        List<Refused> all = new ArrayList<>();
        all.add(new Refused("land(25, 6)", m -> m.land(25, 6), UNKNOWN));
        all.add(new Refused("land(-1, -1)", m -> m.land(-1, -1), UNKNOWN));
        all.add(new Refused("camphor(25, 10)", m -> m.camphor(25, 10), UNKNOWN));
        all.add(new Refused("moth(4, 5, 4)", m -> m.moth(4, 5, 4), UNKNOWN));
        all.add(new Refused("moth(2, 25, 4)", m -> m.moth(2, 25, 4), UNKNOWN));
        all.add(new Refused("moth(4, 25, 4)", m -> m.moth(4, 25, 4), UNKNOWN));
        all.add(new Refused("spool(0, 100)", m -> m.spool(0, 100), UNKNOWN));
        all.add(new Refused("spool(4, -1)", m -> m.spool(4, -1), UNKNOWN));
        all.add(new Refused("behind(25, 2)", m -> m.behind(25, 2), UNKNOWN));
        all.add(new Refused("flies(4, 2)", m -> m.flies(4, 2), UNKNOWN));
        all.add(new Refused("whole(25, 0, 2)", m -> m.whole(25, 0, 2), UNKNOWN));
        all.add(new Refused("whole(0, 25, 2)", m -> m.whole(0, 25, 2), UNKNOWN));
        all.add(new Refused("camphored(25, 2)", m -> m.camphored(25, 2), UNKNOWN));
        all.add(new Refused("seen(41, 25)", m -> m.seen(41, 25), UNKNOWN));
        return all;
    }

    private static List<Refused> outsides() {
        List<Refused> all = new ArrayList<>();
        for (int v : new int[] {-1, 10000, FAR, DEEP}) {
            all.add(new Refused("land(6, " + v + ")", m -> m.land(6, v), OUTSIDE));
            all.add(new Refused("camphor(6, " + v + ")", m -> m.camphor(6, v), OUTSIDE));
            all.add(new Refused("moth(2, 5, " + v + ")", m -> m.moth(2, 5, v), OUTSIDE));
            all.add(new Refused("spool(2, " + v + ")", m -> m.spool(2, v), OUTSIDE));
            all.add(new Refused("say(" + v + ")", m -> m.say(v), OUTSIDE));
            all.add(new Refused("judge(" + v + ")", m -> m.judge(v), OUTSIDE));
            all.add(new Refused("behind(6, " + v + ")", m -> m.behind(6, v), OUTSIDE));
            all.add(new Refused("then(" + v + ")", m -> m.then(v), OUTSIDE));
            all.add(new Refused("whole(0, 24, " + v + ")", m -> m.whole(0, 24, v), OUTSIDE));
            all.add(new Refused("camphored(2, " + v + ")", m -> m.camphored(2, v), OUTSIDE));
            all.add(new Refused("darned(" + v + ")", m -> m.darned(v), OUTSIDE));
            all.add(new Refused("sheet(" + v + ", 0)", m -> m.sheet(v, 0), OUTSIDE));
            all.add(new Refused("sheet(1111, " + v + ")", m -> m.sheet(1111, v), OUTSIDE));
            all.add(new Refused("seen(" + v + ", 6)", m -> m.seen(v, 6), OUTSIDE));
            all.add(new Refused("ask(" + v + ")", m -> m.ask(v), OUTSIDE));
            all.add(new Refused("folds(" + v + ", 0)", m -> m.folds(v, 0), OUTSIDE));
            all.add(new Refused("folds(9, " + v + ")", m -> m.folds(9, v), OUTSIDE));
            all.add(new Refused("year(" + v + ", 9, 0)", m -> m.year(v, 9, 0), OUTSIDE));
            all.add(new Refused("year(9, " + v + ", 0)", m -> m.year(9, v, 0), OUTSIDE));
            all.add(new Refused("year(9, 9, " + v + ")", m -> m.year(9, 9, v), OUTSIDE));
            all.add(new Refused("image(" + v + ")", m -> m.image(v), OUTSIDE));
            all.add(new Refused("restore(" + v + ")", m -> m.restore(v), OUTSIDE));
            all.add(new Refused("told(" + v + ")", m -> m.told(v), OUTSIDE));
        }
        return all;
    }

    private static List<Refused> coffees() {
        List<Refused> all = new ArrayList<>();
        int[][] wrong = {{10, 0, 1, 1, 1, 0, 0}, {5, 6, 1, 1, 1, 0, 0}, {5, 0, 11, 0, 1, 0, 0}, {5, 0, 0, 11, 1, 0, 0},
            {5, 0, 5, 6, 1, 0, 0}, {5, 0, 1, 1, 17, 0, 0}, {5, 0, 1, 1, 1, 6, 0}, {5, 0, 1, 1, 1, 0, 2}};
        for (int[] v : wrong) {
            all.add(new Refused("coffee(" + java.util.Arrays.toString(v) + ")",
                m -> m.coffee(v[0], v[1], v[2], v[3], v[4], v[5], v[6]), LOST + OUTSIDE));
        }
        return all;
    }

    private static List<ToLongFunction<EatenMaps>> questions() {
        List<ToLongFunction<EatenMaps>> all = new ArrayList<>();
        all.add(m -> m.fault());
        for (int what = 0; what <= 1; what++) {
            int one = what;
            all.add(m -> m.judge(one));
            all.add(m -> m.behind(5, one));
            all.add(m -> m.flies(2, one));
            all.add(m -> m.whole(0, 24, one));
            all.add(m -> m.camphored(2, one));
            all.add(m -> m.darned(one));
            all.add(m -> m.sheet(1111, one));
            all.add(m -> m.ask(one));
            all.add(m -> m.folds(60, one));
            all.add(m -> m.coffee(9, 4, 3, 3, 16, 5, one));
            all.add(m -> m.began(one - 1));
        }
        for (int what = 0; what <= 4; what++) {
            int one = what;
            all.add(m -> m.then(one));
            all.add(m -> m.told(one));
            all.add(m -> m.year(77, 99, Math.min(one, 2)));
        }
        all.add(m -> m.road(0, 24));
        all.add(m -> m.began(100));
        all.add(m -> m.began(-2));
        all.add(m -> m.told(124));
        return all;
    }

    private void ofNew() {
        List<Refused> all = new ArrayList<>();
        for (int n = 0; n <= 1; n++) {
            int one = n;
            all.add(new Refused("restore(" + n + ")", m -> m.restore(one), STATE));
        }
        for (int moth = 0; moth < 4; moth++) {
            int one = moth;
            all.add(new Refused("flies(" + moth + ", 0)", m -> m.flies(one, 0), UNKNOWN));
            all.add(new Refused("flies(" + moth + ", 2)", m -> m.flies(one, 2), UNKNOWN));
            all.add(new Refused("told(20 and " + moth + ")", m -> m.told(20 + one), OUTSIDE));
            all.add(new Refused("told(30 and " + moth + ")", m -> m.told(30 + one), OUTSIDE));
        }
        refused("a new object", EatenMaps::new, all);
    }

    private void withMoths() {
        List<Refused> all = new ArrayList<>();
        all.add(new Refused("flies(0, 2)", m -> m.flies(0, 2), OUTSIDE));
        all.add(new Refused("flies(3, -1)", m -> m.flies(3, -1), OUTSIDE));
        all.add(new Refused("flies(2, 0)", m -> m.flies(2, 0), UNKNOWN));
        all.add(new Refused("flies(2, 2)", m -> m.flies(2, 2), UNKNOWN));
        all.add(new Refused("told(22)", m -> m.told(22), OUTSIDE));
        all.add(new Refused("told(32)", m -> m.told(32), OUTSIDE));
        refused("nights that can be", RefusedTest::withNights, all);
        refused("a fault on the pad", RefusedTest::withFault, all);
        refused("an act that can not be", RefusedTest::withActThatCanNotBe, all);
    }

    private void withoutNights() {
        List<Refused> all = new ArrayList<>();
        all.add(new Refused("done()", m -> m.done(), NO));
        all.add(new Refused("behind(0, 0)", m -> m.behind(0, 0), NO));
        all.add(new Refused("behind(24, 1)", m -> m.behind(24, 1), NO));
        all.add(new Refused("flies(0, 0)", m -> m.flies(0, 0), NO));
        all.add(new Refused("flies(3, 1)", m -> m.flies(3, 1), NO));
        for (int what = 0; what <= 4; what++) {
            int one = what;
            all.add(new Refused("then(" + what + ")", m -> m.then(one), NO));
        }
        refused("a fault on the pad", RefusedTest::withFault, all);
        refused("an act that can not be", RefusedTest::withActThatCanNotBe, all);
        refused("night 99", RefusedTest::late, new Refused("done()", m -> m.done(), NO));
        refused("night 99", RefusedTest::late, new Refused("flies(2, 0)", m -> m.flies(2, 0), NO));
    }

    private void ofAFault() {
        refused("a fault on the pad", RefusedTest::withFault, new Refused("judge(0)", m -> m.judge(0), NO));
        refused("a fault on the pad", RefusedTest::withFault, new Refused("judge(1)", m -> m.judge(1), NO));
    }

    private void ofFull() {
        List<Refused> all = new ArrayList<>();
        all.add(new Refused("say(33)", m -> m.say(33), FULL));
        all.add(new Refused("say(126)", m -> m.say(126), FULL));
        all.add(new Refused("say(32)", m -> m.say(32), OUTSIDE));
        all.add(new Refused("say(127)", m -> m.say(127), OUTSIDE));
        all.add(new Refused("seen(0, 0)", m -> m.seen(0, 0), FULL));
        all.add(new Refused("seen(40, 24)", m -> m.seen(40, 24), FULL));
        all.add(new Refused("seen(41, 24)", m -> m.seen(41, 24), OUTSIDE));
        all.add(new Refused("seen(41, 25)", m -> m.seen(41, 25), UNKNOWN));
        all.add(new Refused("darned(0)", m -> m.darned(0), STATE));
        all.add(new Refused("darned(1)", m -> m.darned(1), STATE));
        all.add(new Refused("darned(2)", m -> m.darned(2), OUTSIDE));
        refused("all is full", RefusedTest::full, all);
    }

    private void ofOneImage() {
        refused("all is full", RefusedTest::full, new Refused("restore(1)", m -> m.restore(1), STATE));
        refused("all is full", RefusedTest::full, new Refused("restore(2)", m -> m.restore(2), OUTSIDE));
    }
}
