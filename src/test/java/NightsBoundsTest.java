/**
 * The boundary cases of part 2 of the document and of promises 9 to 14, a method for each sentence that names one:
 * the first act and the last, no act at all, no town and the first one, roads that lead nowhere.
 */
public final class NightsBoundsTest {
    private static final int NONE = -6, UNKNOWN = -1, OUTSIDE = -2, NO = -5;

    private final Due due = new Due();

    public static void main(String[] args) {
        NightsBoundsTest test = new NightsBoundsTest();
        test.judgeWhat();
        test.judgeNothing();
        test.firstActAndLast();
        test.judgeIsOfTheFirst();
        test.judgeOfAFault();
        test.doneOfNothing();
        test.doneOfAFullPad();
        test.doneEmptiesThePad();
        test.notDone();
        test.behindCells();
        test.behindWhat();
        test.behindOfNothing();
        test.behindRefused();
        test.fliesMoths();
        test.fliesWhat();
        test.fliesNone();
        test.fliesRefused();
        test.thenWhat();
        test.thenHoles();
        test.thenThreads();
        test.thenNight();
        test.thenRefused();
        test.noTownEaten();
        test.townInTheFirstNight();
        test.townInTheLastNight();
        test.townNightsAreOfTheText();
        test.firstOfManyTowns();
        test.roadEnds();
        test.roadToItself();
        test.roadByEachLand();
        test.roadsAroundNoEdge();
        test.longestRoad();
        test.noRoad();
        test.due.end();
    }

    private static EatenMaps withAllMoths() {
        EatenMaps maps = new EatenMaps();
        maps.moth(0, 6, 0);
        maps.moth(1, 8, 1);
        maps.moth(2, 18, 2);
        maps.moth(3, 16, 3);
        return maps;
    }

    private void judgeWhat() {
        due.of("promise 9, OUTSIDE: what is 0 or 1");
        due.ends("judge(what)", v -> Due.written(".An").judge(v), 0, 1, 1, 1, OUTSIDE);
        due.ends("judge(what) of what can be", v -> Due.written(".").judge(v), 0, NONE, 1, NONE, OUTSIDE);
        due.ends("judge(what) of nothing", v -> new EatenMaps().judge(v), 0, NONE, 1, NONE, OUTSIDE);
        due.ends("judge(what) of a fault", v -> Due.written("A").judge(v), 0, NO, 1, NO, OUTSIDE);
    }

    private void judgeNothing() {
        due.of("promise 9, NONE: no act that can not be");
        due.is("judge(0) of nothing", NONE, new EatenMaps().judge(0));
        due.is("judge(1) of nothing", NONE, new EatenMaps().judge(1));
        due.is("judge(0) of 60 nights", NONE, Due.written(".".repeat(60)).judge(0));
        due.is("judge(1) of 60 nights", NONE, Due.written(".".repeat(60)).judge(1));
    }

    private void firstActAndLast() {
        due.of("2, JUDGED: the first act, from 0 on");
        EatenMaps maps = Due.atNight(40);
        Due.write(maps, ".".repeat(60));
        due.is("judge(0), the last of 60", 59, maps.judge(0));
        due.is("judge(1), the last of 60", 6, maps.judge(1));
        due.is("judge(0), the first of 59", 0, Due.written("An" + ".".repeat(58)).judge(0));
        due.is("judge(0), the last of 59", 58, Due.written(".".repeat(58) + "An").judge(0));
        due.is("judge(0), acts and not signs", 3, Due.written("+a+b+cAn").judge(0));
    }

    private void judgeIsOfTheFirst() {
        due.of("2, JUDGED: the first act that can not be, and why");
        due.is("judge(0)", 0, Due.written("%a1An+b+b").judge(0));
        due.is("judge(1)", 4, Due.written("%a1An+b+b").judge(1));
        due.is("judge(0)", 1, Due.written("+bAn%a1").judge(0));
        due.is("judge(1)", 1, Due.written("+bAn%a1").judge(1));
        due.is("judge(1)", 3, Due.written("+b+bAn").judge(1));
    }

    private void judgeOfAFault() {
        due.of("promise 9, NO: there is a fault");
        for (String text : new String[] {"?", "A", "+", "%a", ".?", "An?", "AnA", "+b+b%"}) {
            due.is("judge(0) of " + text, NO, Due.written(text).judge(0));
            due.is("judge(1) of " + text, NO, Due.written(text).judge(1));
            due.is("judge(2) of " + text + ": OUTSIDE is ahead of NO", OUTSIDE, Due.written(text).judge(2));
        }
    }

    private void doneOfNothing() {
        due.of("promise 10: acts, none");
        EatenMaps maps = withAllMoths();
        due.is("done()", 0, maps.done());
        due.is("done() again", 0, maps.done());
        due.is("told(2)", 0, maps.told(2));
        due.is("told(20)", 6, maps.told(20));
    }

    private void doneOfAFullPad() {
        due.of("promise 10: acts of a full pad");
        due.is("done() of 60 nights", 60, Due.written(".".repeat(60)).done());
        EatenMaps maps = Due.written("+a+b+c+d+e+f+g+h+i+j+k+l+m+n+o+p+q+r+s+t+u+v+w+x+y..........");
        due.is("told(0)", 60, maps.told(0));
        due.is("done() of 35 acts", 35, maps.done());
        due.is("told(2)", 10, maps.told(2));
        EatenMaps holes = Due.painted("0".repeat(25));
        holes.spool(3, 99);
        Due.write(holes, "%a3%b3%c3%d3%e3%f3%g3%h3%i3%j3%k3%l3%m3%n3%o3%p3%q3%r3%s3%t3");
        due.is("told(0)", 60, holes.told(0));
        due.is("done() of 20 acts", 20, holes.done());
        due.is("told(3)", 5, holes.told(3));
        due.is("told(13)", 79, holes.told(13));
    }

    private void doneEmptiesThePad() {
        due.of("promise 10: the pad is empty then");
        EatenMaps maps = Due.written("+a.");
        maps.done();
        due.is("told(0)", 0, maps.told(0));
        due.is("wipe()", 0, maps.wipe());
        due.is("done() again, of nothing", 0, maps.done());
        due.is("told(2), done once", 1, maps.told(2));
        due.is("say", 1, maps.say('.'));
    }

    private void notDone() {
        due.of("promise 10, NO: a fault, or an act that can not be; nothing is done");
        for (String text : new String[] {"Be+a.?", "Be+a.A", "Be+a.Be", "Be+a.+a.+a+a", "Be+a.%a"}) {
            EatenMaps maps = Due.written(text);
            maps.moth(1, 12, 0);
            due.is("done() of " + text, NO, maps.done());
            due.is("told(0) of " + text, text.length(), maps.told(0));
            due.is("told(2) of " + text, 0, maps.told(2));
            due.is("told(3) of " + text, 0, maps.told(3));
            due.is("told(21) of " + text, 12, maps.told(21));
            due.is("told(31) of " + text, 0, maps.told(31));
            due.is("told(200) of " + text, 0, maps.told(200));
        }
    }

    private void behindCells() {
        due.of("promise 11, UNKNOWN: cells are 0 to 24");
        due.ends("behind(cell, 0)", v -> Due.written("+a").behind(v, 0), 0, 1, 24, 1, UNKNOWN);
        due.ends("behind(cell, 1)", v -> Due.written("+a+y").behind(v, 1), 0, 3, 24, 3, UNKNOWN);
    }

    private void behindWhat() {
        due.of("promise 11, OUTSIDE: what is 0 or 1");
        due.ends("behind(0, what)", v -> Due.written("+a").behind(0, v), 0, 1, 1, 3, OUTSIDE);
        due.ends("behind(24, what)", v -> Due.written("+y.").behind(24, v), 0, 1, 1, 2, OUTSIDE);
    }

    private void behindOfNothing() {
        due.of("2, BEHIND: no text, all is as it is now");
        EatenMaps maps = withAllMoths();
        maps.land(0, 5);
        maps.camphor(24, 9);
        due.is("behind(0, 0)", 5, maps.behind(0, 0));
        due.is("behind(24, 1)", 9, maps.behind(24, 1));
        due.is("flies(0, 0)", 6, maps.flies(0, 0));
        due.is("flies(3, 1)", 3, maps.flies(3, 1));
        due.is("then(0)", 0, maps.then(0));
        due.is("then(1)", 27, maps.then(1));
        due.is("then(2)", 0, maps.then(2));
        due.is("then(3)", NONE, maps.then(3));
        due.is("then(4)", NONE, maps.then(4));
    }

    private void behindRefused() {
        due.of("promise 11: UNKNOWN, OUTSIDE, NO in this order");
        for (String text : new String[] {"A", "An", ".?", "%a1"}) {
            due.is("behind(0, 0) of " + text, NO, Due.written(text).behind(0, 0));
            due.is("behind(24, 1) of " + text, NO, Due.written(text).behind(24, 1));
            due.is("behind(0, 2) of " + text, OUTSIDE, Due.written(text).behind(0, 2));
            due.is("behind(25, 0) of " + text, UNKNOWN, Due.written(text).behind(25, 0));
            due.is("behind(-1, -1) of " + text, UNKNOWN, Due.written(text).behind(-1, -1));
        }
        due.is("behind(25, 2)", UNKNOWN, new EatenMaps().behind(25, 2));
    }

    private void fliesMoths() {
        due.of("promise 12, UNKNOWN: moths are 0 to 3, and there now");
        due.ends("flies(moth, 0), all there", v -> withAllMoths().flies(v, 0), 0, 6, 3, 16, UNKNOWN);
        due.ends("flies(moth, 1), all there", v -> withAllMoths().flies(v, 1), 0, 0, 3, 3, UNKNOWN);
        due.ends("flies(moth, 0), none there", v -> new EatenMaps().flies(v, 0), 0, UNKNOWN, 3, UNKNOWN, UNKNOWN);
        EatenMaps maps = new EatenMaps();
        maps.moth(2, 0, 3);
        due.is("flies(1, 0)", UNKNOWN, maps.flies(1, 0));
        due.is("flies(2, 0)", 0, maps.flies(2, 0));
        due.is("flies(3, 0)", UNKNOWN, maps.flies(3, 0));
    }

    private void fliesWhat() {
        due.of("promise 12, OUTSIDE: what is 0 or 1");
        due.ends("flies(3, what)", v -> withAllMoths().flies(3, v), 0, 16, 1, 3, OUTSIDE);
    }

    private void fliesNone() {
        due.of("2, BEHIND: NONE both, it was caught");
        EatenMaps maps = withAllMoths();
        Due.write(maps, "A!D!..");
        for (int moth : new int[] {0, 3}) {
            due.is("flies(" + moth + ", 0)", NONE, maps.flies(moth, 0));
            due.is("flies(" + moth + ", 1)", NONE, maps.flies(moth, 1));
            due.is("flies(" + moth + ", 2)", OUTSIDE, maps.flies(moth, 2));
        }
        due.is("flies(1, 0)", 14, maps.flies(1, 0));
        due.is("flies(2, 0)", 22, maps.flies(2, 0));
        due.is("told(1): nothing is done", 15, maps.told(1));
        maps.done();
        due.is("flies(0, 0), done", UNKNOWN, maps.flies(0, 0));
        due.is("flies(3, 2), done", UNKNOWN, maps.flies(3, 2));
    }

    private void fliesRefused() {
        due.of("promise 12: UNKNOWN, OUTSIDE, NO in this order");
        for (String text : new String[] {"A", "An", ".?", "%a1", "A!A!"}) {
            EatenMaps maps = withAllMoths();
            Due.doNights(maps, "C!");
            Due.write(maps, text);
            due.is("flies(0, 0) of " + text, NO, maps.flies(0, 0));
            due.is("flies(3, 1) of " + text, NO, maps.flies(3, 1));
            due.is("flies(0, 2) of " + text, OUTSIDE, maps.flies(0, 2));
            due.is("flies(0, -1) of " + text, OUTSIDE, maps.flies(0, -1));
            due.is("flies(2, 0) of " + text, UNKNOWN, maps.flies(2, 0));
            due.is("flies(2, 2) of " + text, UNKNOWN, maps.flies(2, 2));
            due.is("flies(4, -1) of " + text, UNKNOWN, maps.flies(4, -1));
        }
    }

    private void thenWhat() {
        due.of("promise 13, OUTSIDE: what is 0 to 4");
        due.ends("then(what)", v -> townIn(0, 1, 3).then(v), 0, 1, 4, 0, OUTSIDE);
        due.ends("then(what) of a fault", v -> Due.written("A").then(v), 0, NO, 4, NO, OUTSIDE);
    }

    /** A moth that comes to a town by the one night on the pad. */
    private static EatenMaps townIn(int town, int from, int heads) {
        EatenMaps maps = Due.written(".");
        maps.land(town, 4);
        maps.moth(3, from, heads);
        return maps;
    }

    private void thenHoles() {
        due.of("promise 13: holes, none and all");
        due.is("then(0), none", 0, new EatenMaps().then(0));
        EatenMaps maps = Due.painted("0".repeat(25));
        due.is("then(0), all", 25, maps.then(0));
        maps.moth(0, 0, 1);
        maps.say('.');
        due.is("then(0), a hole is eaten", 25, maps.then(0));
        Due.write(maps, "%y2");
        due.is("then(0), one darned", 24, maps.then(0));
        due.is("told(3)", 25, maps.told(3));
    }

    private void thenThreads() {
        due.of("promise 13: threads of all three added, none and all");
        EatenMaps maps = new EatenMaps();
        for (int thread = 1; thread <= 3; thread++) {
            maps.spool(thread, 0);
        }
        due.is("then(1), none", 0, maps.then(1));
        for (int thread = 1; thread <= 3; thread++) {
            maps.spool(thread, 99);
        }
        due.is("then(1), all", 297, maps.then(1));
        maps.land(0, 0);
        Due.write(maps, "%a1");
        due.is("then(1), one less", 296, maps.then(1));
    }

    private void thenNight() {
        due.of("promise 13: the night, 0 to 99");
        due.is("then(2), the first", 0, new EatenMaps().then(2));
        EatenMaps maps = Due.atNight(39);
        Due.write(maps, ".".repeat(60));
        due.is("then(2), the last", 99, maps.then(2));
        due.is("told(2)", 39, maps.told(2));
        maps.done();
        due.is("then(2), the last, of nothing", 99, maps.then(2));
    }

    private void thenRefused() {
        due.of("promise 13: OUTSIDE, NO in this order");
        for (String text : new String[] {"A", "An", ".?", "%a1", "+a+a"}) {
            for (int what = 0; what <= 4; what++) {
                due.is("then(" + what + ") of " + text, NO, Due.written(text).then(what));
            }
            due.is("then(5) of " + text, OUTSIDE, Due.written(text).then(5));
            due.is("then(-1) of " + text, OUTSIDE, Due.written(text).then(-1));
        }
    }

    private void isTown(String call, EatenMaps maps, int night, int town) {
        due.is("then(3), " + call, night, maps.then(3));
        due.is("then(4), " + call, town, maps.then(4));
    }

    private void noTownEaten() {
        due.of("promise 13, NONE: no town was eaten");
        isTown("nothing on the pad", new EatenMaps(), NONE, NONE);
        isTown("no moth", Due.written(".".repeat(60)), NONE, NONE);
        EatenMaps maps = Due.painted("11111" + "14441" + "14441" + "14441" + "11111");
        maps.moth(0, 0, 1);
        Due.write(maps, ".".repeat(60));
        isTown("towns that it never comes to", maps, NONE, NONE);
        maps.moth(0, 12, 0);
        Due.rewrite(maps, "AeAsA!.");
        isTown("a town on which it was", maps, NONE, NONE);
        EatenMaps eaten = townIn(1, 0, 1);
        eaten.done();
        isTown("a town that was eaten before the text", eaten, NONE, NONE);
        Due.write(eaten, "..");
        isTown("a town that was eaten before the text's nights", eaten, NONE, NONE);
    }

    private void townInTheFirstNight() {
        due.of("promise 13: night 0 of the text, cells 0 and 24");
        isTown("cell 0", townIn(0, 1, 3), 0, 0);
        isTown("cell 24", townIn(24, 23, 1), 0, 24);
        isTown("cell 24", townIn(24, 19, 2), 0, 24);
    }

    private void townInTheLastNight() {
        due.of("promise 13: the last night of a full pad");
        EatenMaps maps = new EatenMaps();
        maps.moth(0, 0, 1);
        maps.land(18, 4);
        Due.write(maps, ".".repeat(57) + "An.");
        due.is("told(0)", 60, maps.told(0));
        isTown("57 nights around the map and one more", maps, 57, 18);
    }

    private void townNightsAreOfTheText() {
        due.of("2, BEHIND: from 0 on, of the text's nights");
        EatenMaps maps = Due.atNight(97);
        maps.moth(0, 0, 1);
        maps.land(2, 4);
        Due.write(maps, "..");
        isTown("night 98", maps, 1, 2);
        EatenMaps acts = new EatenMaps();
        acts.moth(0, 0, 1);
        acts.land(2, 4);
        Due.write(acts, "+x+w.+v+u.");
        isTown("acts that are no nights are not counted", acts, 1, 2);
    }

    private void firstOfManyTowns() {
        due.of("2, BEHIND: the first town that was eaten");
        EatenMaps maps = Due.painted("4".repeat(25));
        maps.moth(3, 0, 1);
        maps.moth(2, 24, 3);
        Due.write(maps, "...");
        isTown("C ahead of D, in one night", maps, 0, 23);
        Due.rewrite(maps, "C!...");
        isTown("D alone", maps, 0, 1);
        maps.land(1, 1);
        isTown("its second cell", maps, 1, 2);
        maps.moth(0, 2, 2);
        isTown("A in the first night", maps, 0, 7);
    }

    private void roadEnds() {
        due.of("promise 14, UNKNOWN: both cells are 0 to 24");
        due.ends("road(from, 12)", v -> new EatenMaps().road(v, 12), 0, 4, 24, 4, UNKNOWN);
        due.ends("road(12, to)", v -> new EatenMaps().road(12, v), 0, 4, 24, 4, UNKNOWN);
        due.is("road(25, 25)", UNKNOWN, new EatenMaps().road(25, 25));
        due.is("road(-1, -1)", UNKNOWN, new EatenMaps().road(-1, -1));
        EatenMaps water = Due.painted("3".repeat(25));
        due.is("road(0, 25), where no road is", UNKNOWN, water.road(0, 25));
        due.is("road(25, 0), where no road is", UNKNOWN, water.road(25, 0));
    }

    private void roadToItself() {
        due.of("2, ROAD: both ends too, and no step");
        for (int land = 0; land <= 5; land++) {
            for (int cell : new int[] {0, 12, 24}) {
                EatenMaps maps = new EatenMaps();
                maps.land(cell, land);
                due.is("road(cell, cell), land " + land, land == 0 || land == 3 ? NONE : 0, maps.road(cell, cell));
            }
        }
    }

    private void roadByEachLand() {
        due.of("2, ROAD: by cells that are no holes, nor water, both ends too");
        for (int land = 0; land <= 5; land++) {
            boolean open = land != 0 && land != 3;
            EatenMaps maps = Due.painted("33333" + "33333" + "1" + land + "133" + "33333" + "33333");
            due.is("road(10, 12), land " + land, open ? 2 : NONE, maps.road(10, 12));
            due.is("road(10, 11), land " + land, open ? 1 : NONE, maps.road(10, 11));
            due.is("road(11, 10), land " + land, open ? 1 : NONE, maps.road(11, 10));
        }
    }

    private void roadsAroundNoEdge() {
        due.of("1: beside each other to the north, east, south, west; the map does not come round");
        for (int from = 0; from < 25; from++) {
            EatenMaps maps = new EatenMaps();
            for (int to = 0; to < 25; to++) {
                int steps = Math.abs(from / 5 - to / 5) + Math.abs(from % 5 - to % 5);
                due.is("road(" + from + ", " + to + ")", steps, maps.road(from, to));
            }
        }
        EatenMaps rows = Due.painted("11111" + "11111" + "33333" + "33333" + "33333");
        rows.land(3, 3);
        rows.land(8, 3);
        due.is("road(4, 5): 4 and 5 are not beside each other", NONE, rows.road(4, 5));
        due.is("road(9, 10)", NONE, rows.road(9, 10));
    }

    private void longestRoad() {
        due.of("2, ROAD: the fewest steps, though it winds");
        due.is("road(0, 24)", 16, Due.painted("11111" + "33331" + "11111" + "13333" + "11111").road(0, 24));
        due.is("road(0, 24), north and south", 16, Due.painted("10111" + "10101" + "10101" + "10101" + "11101").road(0, 24));
        EatenMaps two = Due.painted("11111" + "13331" + "13331" + "13333" + "11111");
        due.is("road(0, 14)", 6, two.road(0, 14));
        due.is("road(14, 24)", 14, two.road(14, 24));
    }

    private void noRoad() {
        due.of("promise 14, NONE");
        due.is("road(0, 24), all holes", NONE, Due.painted("0".repeat(25)).road(0, 24));
        due.is("road(0, 24), all water", NONE, Due.painted("3".repeat(25)).road(0, 24));
        due.is("road(0, 24), a corner cut off", NONE, Due.painted("10111" + "31111" + "1".repeat(15)).road(0, 24));
        due.is("road(24, 0), a corner cut off", NONE, Due.painted("10111" + "31111" + "1".repeat(15)).road(24, 0));
        due.is("road(0, 6), only aslant", NONE, Due.painted("13333" + "31333" + "3".repeat(15)).road(0, 6));
        EatenMaps ring = Due.painted("11111" + "10001" + "10101" + "10001" + "11111");
        due.is("road(0, 12)", NONE, ring.road(0, 12));
        due.is("road(12, 12)", 0, ring.road(12, 12));
    }
}
