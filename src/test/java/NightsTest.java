/** Promises 9 to 14: nights judged, done, told, and roads. */
public final class NightsTest {
    private final Due due = new Due();

    public static void main(String[] args) {
        NightsTest test = new NightsTest();
        test.reasons();
        test.leastReason();
        test.nightNinetyNine();
        test.judgeRefusals();
        test.headingLetters();
        test.done();
        test.behind();
        test.turningRight();
        test.camphorBars();
        test.mothsInOrder();
        test.flies();
        test.thenAll();
        test.townsEaten();
        test.road();
        test.due.end();
    }

    private static EatenMaps withTwoMoths() {
        EatenMaps maps = new EatenMaps();
        maps.moth(0, 0, 1);
        maps.moth(1, 24, 3);
        maps.land(6, 4);
        return maps;
    }

    private void judged(EatenMaps maps, String text, int act, int why) {
        Due.rewrite(maps, text);
        due.is("judge(0) of " + text, act, maps.judge(0));
        due.is("judge(1) of " + text, why, maps.judge(1));
        due.is("told(0) of " + text, text.length(), maps.told(0));
    }

    private void reasons() {
        due.of("promise 9");
        EatenMaps maps = withTwoMoths();
        judged(maps, "", -6, -6);
        judged(maps, "An", -6, -6);
        judged(maps, "Cn", 0, 1);
        judged(maps, "C!", 0, 1);
        judged(maps, "A!.An", 2, 1);
        judged(maps, "Ae", 0, 2);
        judged(maps, ".Ae", 1, 2);
        judged(maps, "AsAs", 1, 2);
        judged(maps, "+b+b", 1, 3);
        judged(maps, "+b.+b", -6, -6);
        judged(maps, "%a1", 0, 4);
        judged(maps, ".%b1%b1", 2, 4);
        judged(maps, ".%b1", -6, -6);
        maps.camphor(1, 9);
        judged(maps, "+b", 0, 3);
        judged(maps, "......+b", 6, 3);
        judged(maps, ".......+b", -6, -6);
        maps.camphor(1, 3);
        judged(maps, "+b", 0, 3);
        maps.camphor(1, 2);
        judged(maps, "+b", -6, -6);
    }

    private void leastReason() {
        due.of("promise 9, reasons 4 and 5");
        EatenMaps maps = new EatenMaps();
        maps.land(0, 0);
        maps.land(1, 0);
        maps.land(2, 0);
        maps.spool(1, 0);
        maps.spool(2, 1);
        judged(maps, "%d1", 0, 4);
        judged(maps, "%a1", 0, 5);
        judged(maps, "%a2%b3%c2", 2, 5);
        judged(maps, "%a2%a2", 1, 4);
        judged(maps, "%a3%b3%c3", -6, -6);
    }

    private void nightNinetyNine() {
        due.of("promise 9, reason 6");
        EatenMaps maps = new EatenMaps();
        due.is("done()", 60, Due.doNights(maps, ".".repeat(60)));
        due.is("done()", 38, Due.doNights(maps, ".".repeat(38)));
        due.is("told(2)", 98, maps.told(2));
        judged(maps, "..", 1, 6);
        due.is("done()", -5, maps.done());
        due.is("told(2)", 98, maps.told(2));
        due.is("done()", 1, Due.doNights(maps, "."));
        due.is("told(2)", 99, maps.told(2));
        judged(maps, "+a.", 1, 6);
        judged(maps, "+a", -6, -6);
    }

    private void judgeRefusals() {
        due.of("promise 9, refused");
        EatenMaps maps = new EatenMaps();
        due.is("judge(2)", -2, maps.judge(2));
        due.is("judge(-1)", -2, maps.judge(-1));
        Due.rewrite(maps, "CnA");
        due.is("judge(0), a fault behind an act that can not be", -5, maps.judge(0));
        due.is("judge(1)", -5, maps.judge(1));
        due.is("judge(2)", -2, maps.judge(2));
    }

    private void headingLetters() {
        due.of("nights, n e s w");
        for (int moth = 0; moth < 4; moth++) {
            for (int heads = 0; heads < 4; heads++) {
                EatenMaps maps = new EatenMaps();
                maps.moth(moth, 12, (heads + 1) % 4);
                Due.write(maps, "" + "ABCD".charAt(moth) + "nesw".charAt(heads));
                due.is("flies(moth, 1)", heads, maps.flies(moth, 1));
                due.is("flies(moth, 0)", 12, maps.flies(moth, 0));
                Due.write(maps, ".");
                due.is("flies(moth, 0)", new int[] {7, 13, 17, 11}[heads], maps.flies(moth, 0));
            }
        }
    }

    private void done() {
        due.of("promise 10");
        EatenMaps maps = withTwoMoths();
        due.is("done() of nothing", 0, maps.done());
        due.is("done()", 6, Due.doNights(maps, "As.+y.%f2B!"));
        due.is("told(0)", 0, maps.told(0));
        due.is("told(1)", 1, maps.told(1));
        due.is("told(2)", 2, maps.told(2));
        due.is("told(20)", 10, maps.told(20));
        due.is("told(30)", 2, maps.told(30));
        due.is("told(105)", 3, maps.told(105));
        due.is("told(110)", 0, maps.told(110));
        due.is("told(123)", 0, maps.told(123));
        due.is("told(224)", 2, maps.told(224));
        due.is("told(12)", 8, maps.told(12));
        due.is("told(3)", 3, maps.told(3));
        Due.rewrite(maps, ".B!");
        due.is("done(), an act can not be", -5, maps.done());
        due.is("told(0)", 3, maps.told(0));
        due.is("told(2)", 2, maps.told(2));
        due.is("told(20)", 10, maps.told(20));
        Due.rewrite(maps, ".+");
        due.is("done(), a fault", -5, maps.done());
        due.is("told(0)", 2, maps.told(0));
        due.is("told(2)", 2, maps.told(2));
    }

    private void behind() {
        due.of("promise 11");
        EatenMaps maps = withTwoMoths();
        maps.camphor(12, 2);
        Due.rewrite(maps, "+a+u..%c1%b3");
        due.is("behind(0, 1)", 1, maps.behind(0, 1));
        due.is("behind(20, 1)", 1, maps.behind(20, 1));
        due.is("behind(12, 1)", 0, maps.behind(12, 1));
        due.is("behind(11, 1)", 0, maps.behind(11, 1));
        due.is("behind(1, 0)", 5, maps.behind(1, 0));
        due.is("behind(2, 0)", 2, maps.behind(2, 0));
        due.is("behind(22, 0)", 0, maps.behind(22, 0));
        due.is("behind(0, 0): where it began is not eaten", 1, maps.behind(0, 0));
        due.is("told(101): nothing is done", 1, maps.told(101));
        due.is("told(2)", 0, maps.told(2));
        due.is("behind(25, 0)", -1, maps.behind(25, 0));
        due.is("behind(-1, 2)", -1, maps.behind(-1, 2));
        due.is("behind(0, 2)", -2, maps.behind(0, 2));
        due.is("behind(0, -1)", -2, maps.behind(0, -1));
        Due.write(maps, "C!");
        due.is("behind(0, 0)", -5, maps.behind(0, 0));
        due.is("behind(0, 2)", -2, maps.behind(0, 2));
        due.is("behind(25, 0)", -1, maps.behind(25, 0));
        Due.rewrite(maps, "%");
        due.is("behind(0, 1)", -5, maps.behind(0, 1));
    }

    private void turningRight() {
        due.of("nights, at the map's edges");
        int[][] corners = {{0, 0, 1, 1}, {0, 3, 1, 1}, {4, 1, 9, 2}, {4, 0, 9, 2}, {24, 2, 23, 3}, {24, 1, 23, 3},
            {20, 3, 15, 0}, {20, 2, 15, 0}, {2, 0, 3, 1}, {14, 1, 19, 2}, {22, 2, 21, 3}, {10, 3, 5, 0},
            {12, 0, 7, 0}, {12, 1, 13, 1}, {12, 2, 17, 2}, {12, 3, 11, 3}, {5, 1, 6, 1}, {9, 3, 8, 3}};
        for (int[] corner : corners) {
            EatenMaps maps = new EatenMaps();
            maps.moth(0, corner[0], corner[1]);
            Due.write(maps, ".");
            due.is("flies(0, 0) from " + corner[0] + " heading " + corner[1], corner[2], maps.flies(0, 0));
            due.is("flies(0, 1) from " + corner[0] + " heading " + corner[1], corner[3], maps.flies(0, 1));
        }
    }

    private void camphorBars() {
        due.of("nights, with camphor");
        EatenMaps maps = new EatenMaps();
        maps.moth(0, 12, 0);
        int[] around = {7, 13, 17, 11};
        for (int barred = 0; barred < 4; barred++) {
            Due.rewrite(maps, ".");
            due.is("flies(0, 0), " + barred + " barred", around[barred], maps.flies(0, 0));
            due.is("flies(0, 1), " + barred + " barred", barred, maps.flies(0, 1));
            maps.camphor(around[barred], 1);
        }
        due.is("flies(0, 0), all barred", 12, maps.flies(0, 0));
        due.is("flies(0, 1), all barred", 0, maps.flies(0, 1));
        due.is("behind(12, 0), all barred", 1, maps.behind(12, 0));
        Due.rewrite(maps, "..");
        due.is("flies(0, 0), the camphor gone", 7, maps.flies(0, 0));
    }

    private void mothsInOrder() {
        due.of("nights, A first");
        EatenMaps maps = new EatenMaps();
        maps.land(7, 4);
        maps.land(8, 4);
        maps.moth(3, 2, 2);
        maps.moth(1, 9, 3);
        Due.write(maps, ".");
        due.is("then(4): B eats ahead of D", 8, maps.then(4));
        maps.moth(0, 3, 2);
        maps.land(8, 4);
        due.is("then(4): two come to one town", 8, maps.then(4));
        due.is("then(0)", 2, maps.then(0));
        maps.moth(0, 6, 1);
        due.is("then(4): A eats ahead of B", 7, maps.then(4));
    }

    private void flies() {
        due.of("promise 12");
        EatenMaps maps = withTwoMoths();
        Due.rewrite(maps, "BnB!");
        due.is("flies(1, 0)", -6, maps.flies(1, 0));
        due.is("flies(1, 1)", -6, maps.flies(1, 1));
        due.is("flies(0, 0)", 0, maps.flies(0, 0));
        due.is("flies(0, 1)", 1, maps.flies(0, 1));
        due.is("flies(2, 0)", -1, maps.flies(2, 0));
        due.is("flies(4, 0)", -1, maps.flies(4, 0));
        due.is("flies(-1, 0)", -1, maps.flies(-1, 0));
        due.is("flies(2, 2)", -1, maps.flies(2, 2));
        due.is("flies(0, 2)", -2, maps.flies(0, 2));
        due.is("flies(0, -1)", -2, maps.flies(0, -1));
        Due.write(maps, "B!");
        due.is("flies(0, 0)", -5, maps.flies(0, 0));
        due.is("flies(0, 2)", -2, maps.flies(0, 2));
        due.is("flies(2, 0)", -1, maps.flies(2, 0));
        Due.rewrite(maps, "B");
        due.is("flies(0, 1)", -5, maps.flies(0, 1));
        Due.doNights(maps, "B!");
        due.is("flies(1, 0), caught in fact", -1, maps.flies(1, 0));
        due.is("moth(1, 3, 2), there again", 2, maps.moth(1, 3, 2));
        due.is("flies(1, 0)", 3, maps.flies(1, 0));
        due.is("flies(1, 1)", 2, maps.flies(1, 1));
    }

    private void thenAll() {
        due.of("promise 13");
        EatenMaps maps = withTwoMoths();
        maps.spool(1, 5);
        maps.spool(3, 70);
        due.is("then(1) of nothing", 84, maps.then(1));
        Due.rewrite(maps, "..%b1%c3%x2");
        due.is("then(0)", 1, maps.then(0));
        due.is("then(1)", 81, maps.then(1));
        due.is("then(2)", 2, maps.then(2));
        due.is("then(3)", -6, maps.then(3));
        due.is("then(4)", -6, maps.then(4));
        due.is("told(3): nothing is done", 0, maps.told(3));
        due.is("then(5)", -2, maps.then(5));
        due.is("then(-1)", -2, maps.then(-1));
        Due.write(maps, "%x2");
        for (int what = 0; what <= 4; what++) {
            due.is("then(" + what + ")", -5, maps.then(what));
        }
        due.is("then(5)", -2, maps.then(5));
        Due.rewrite(maps, "!");
        due.is("then(0)", -5, maps.then(0));
    }

    private void townsEaten() {
        due.of("promise 13, towns");
        EatenMaps maps = withTwoMoths();
        maps.land(22, 4);
        Due.rewrite(maps, "As+a.+b.Ae.Bn.");
        due.is("then(3)", 1, maps.then(3));
        due.is("then(4)", 22, maps.then(4));
        Due.doNights(maps, ".B!");
        due.is("told(2)", 1, maps.told(2));
        Due.rewrite(maps, "As.Aw");
        due.is("then(3)", 0, maps.then(3));
        due.is("then(4)", 6, maps.then(4));
        due.is("then(2)", 2, maps.then(2));
        maps.land(1, 4);
        Due.rewrite(maps, "+b");
        due.is("then(3): under the moth, not eaten", -6, maps.then(3));
        due.is("then(4)", -6, maps.then(4));
    }

    private void road() {
        due.of("promise 14");
        EatenMaps maps = new EatenMaps();
        due.is("road(0, 24)", 8, maps.road(0, 24));
        due.is("road(4, 20)", 8, maps.road(4, 20));
        due.is("road(4, 5): not round the edge", 5, maps.road(4, 5));
        due.is("road(7, 7)", 0, maps.road(7, 7));
        for (int v = 0; v <= 5; v++) {
            maps.land(12, v);
            boolean open = v != 0 && v != 3;
            due.is("road(12, 12)", open ? 0 : -6, maps.road(12, 12));
            due.is("road(12, 14)", open ? 2 : -6, maps.road(12, 14));
            due.is("road(10, 12)", open ? 2 : -6, maps.road(10, 12));
            due.is("road(10, 14)", open ? 4 : 6, maps.road(10, 14));
        }
        for (int cell : new int[] {1, 6, 11, 16, 8, 13, 18, 23}) {
            maps.land(cell, cell % 2 == 0 ? 0 : 3);
        }
        maps.land(12, 2);
        due.is("road(0, 4), winding", 12, maps.road(0, 4));
        maps.land(22, 3);
        due.is("road(0, 4), shut", -6, maps.road(0, 4));
        due.is("road(25, 0)", -1, maps.road(25, 0));
        due.is("road(0, 25)", -1, maps.road(0, 25));
        due.is("road(-1, 0)", -1, maps.road(-1, 0));
        due.is("road(0, min)", -1, maps.road(0, Integer.MIN_VALUE));
    }
}
