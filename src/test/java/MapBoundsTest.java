/**
 * The boundary cases of part 1 of the document and of promises 1 to 8, a method for each sentence that names one:
 * what is taken and what is not, nothing and all, the map's edges, night 99.
 */
public final class MapBoundsTest {
    private static final int NONE = -6, UNKNOWN = -1, OUTSIDE = -2, FULL = -4, NO = -5;
    private static final String CELLS = "abcdefghijklmnopqrstuvwxy", MOTHS = "ABCD", HEADS = "nesw";

    private final Due due = new Due();

    public static void main(String[] args) {
        MapBoundsTest test = new MapBoundsTest();
        test.allAtFirst();
        test.cellsTaken();
        test.landsTaken();
        test.camphorTaken();
        test.mothsTaken();
        test.headingsTaken();
        test.noMothAllMoths();
        test.mothAnew();
        test.threadsTaken();
        test.threadNumbersTaken();
        test.signsTaken();
        test.padFull();
        test.wipedOfNothingAndAll();
        test.faultOfNothing();
        test.everySignInEveryPlace();
        test.faultWhereMoreMustCome();
        test.faultIsTheFirst();
        test.everyCellLetter();
        test.everyMothLetter();
        test.everyHeading();
        test.caughtIsNoMore();
        test.camphorForThreeNights();
        test.darnedByEachThread();
        test.lastThread();
        test.everyStandByNight();
        test.turnsPastWest();
        test.staysInNoWay();
        test.camphorOnItsOwnCell();
        test.everyLandIsEaten();
        test.camphorANightLess();
        test.camphorBarsAllInItsLastNight();
        test.leastReason();
        test.nightNinetyNine();
        test.due.end();
    }

    private void allAtFirst() {
        due.of("1: fields all, no camphor, no moths, 9 of each thread, night 0 at first");
        EatenMaps maps = new EatenMaps();
        for (int cell = 0; cell < 25; cell++) {
            due.is("told(100 and " + cell + ")", 1, maps.told(100 + cell));
            due.is("told(200 and " + cell + ")", 0, maps.told(200 + cell));
        }
        for (int thread = 1; thread <= 3; thread++) {
            due.is("told(10 and " + thread + ")", 9, maps.told(10 + thread));
        }
        due.is("told(1)", 0, maps.told(1));
        due.is("told(2)", 0, maps.told(2));
        due.is("told(3)", 0, maps.told(3));
        due.is("then(1)", 27, maps.then(1));
    }

    private void cellsTaken() {
        due.of("promises 2 to 4, UNKNOWN: cells are 0 to 24");
        due.ends("land(cell, 2)", v -> new EatenMaps().land(v, 2), 0, 1, 24, 1, UNKNOWN);
        due.ends("camphor(cell, 2)", v -> new EatenMaps().camphor(v, 2), 0, 0, 24, 0, UNKNOWN);
        due.ends("moth(1, cell, 2)", v -> new EatenMaps().moth(1, v, 2), 0, 1, 24, 1, UNKNOWN);
        for (int cell : new int[] {0, 24}) {
            EatenMaps maps = new EatenMaps();
            maps.land(cell, 4);
            maps.camphor(cell, 7);
            maps.moth(2, cell, 1);
            due.is("told(land)", 4, maps.told(100 + cell));
            due.is("told(camphor)", 7, maps.told(200 + cell));
            due.is("told(22)", cell, maps.told(22));
            due.is("told(land) of the other corner", 1, maps.told(124 - cell));
            due.is("told(camphor) of the other corner", 0, maps.told(224 - cell));
        }
    }

    private void landsTaken() {
        due.of("promise 2, OUTSIDE: lands are 0 to 5");
        due.ends("land(7, v)", v -> new EatenMaps().land(7, v), 0, 1, 5, 1, OUTSIDE);
        EatenMaps maps = new EatenMaps();
        maps.land(7, 0);
        due.is("told(107)", 0, maps.told(107));
        due.is("land(7, 5) tells what it was", 0, maps.land(7, 5));
        due.is("told(107)", 5, maps.told(107));
        due.is("land(7, 5) again", 5, maps.land(7, 5));
        due.is("land(7, 6)", OUTSIDE, maps.land(7, 6));
        due.is("told(107)", 5, maps.told(107));
    }

    private void camphorTaken() {
        due.of("promise 3, OUTSIDE: camphor lies for 0 to 9 nights");
        due.ends("camphor(7, nights)", v -> new EatenMaps().camphor(7, v), 0, 0, 9, 0, OUTSIDE);
        EatenMaps maps = new EatenMaps();
        maps.camphor(7, 9);
        due.is("told(207)", 9, maps.told(207));
        due.is("camphor(7, 10)", OUTSIDE, maps.camphor(7, 10));
        due.is("camphor(7, 0) tells how it lay", 9, maps.camphor(7, 0));
        due.is("told(207)", 0, maps.told(207));
    }

    private void mothsTaken() {
        due.of("promise 4, UNKNOWN: moths are 0 to 3");
        due.ends("moth(moth, 12, 0)", v -> new EatenMaps().moth(v, 12, 0), 0, 1, 3, 1, UNKNOWN);
        EatenMaps maps = new EatenMaps();
        maps.moth(3, 12, 0);
        due.is("told(1)", 8, maps.told(1));
        maps.moth(0, 12, 0);
        due.is("told(1)", 9, maps.told(1));
    }

    private void headingsTaken() {
        due.of("promise 4, OUTSIDE: a moth heads 0 to 3");
        due.ends("moth(1, 12, heads)", v -> new EatenMaps().moth(1, 12, v), 0, 1, 3, 1, OUTSIDE);
        EatenMaps maps = new EatenMaps();
        maps.moth(1, 12, 3);
        due.is("told(31)", 3, maps.told(31));
        due.is("moth(1, 11, 4)", OUTSIDE, maps.moth(1, 11, 4));
        due.is("told(21)", 12, maps.told(21));
        maps.moth(1, 12, 0);
        due.is("told(31)", 0, maps.told(31));
    }

    private void noMothAllMoths() {
        due.of("1: moths, none of whom are there at first");
        EatenMaps maps = new EatenMaps();
        for (int moth = 0; moth < 4; moth++) {
            due.is("told(20 and " + moth + "), none there", OUTSIDE, maps.told(20 + moth));
            due.is("told(30 and " + moth + "), none there", OUTSIDE, maps.told(30 + moth));
            due.is("flies(" + moth + ", 0), none there", UNKNOWN, maps.flies(moth, 0));
        }
        for (int moth = 0; moth < 4; moth++) {
            due.is("moth(" + moth + ", 24, 3)", moth + 1, maps.moth(moth, 24, 3));
        }
        due.is("told(1), all there", 15, maps.told(1));
        for (int moth = 0; moth < 4; moth++) {
            due.is("told(20 and " + moth + "), all there", 24, maps.told(20 + moth));
            due.is("told(30 and " + moth + "), all there", 3, maps.told(30 + moth));
        }
    }

    private void mothAnew() {
        due.of("promise 4: a moth is there, or anew");
        EatenMaps maps = new EatenMaps();
        due.is("moth(1, 0, 0)", 1, maps.moth(1, 0, 0));
        due.is("moth(1, 0, 0), anew and alike", 1, maps.moth(1, 0, 0));
        due.is("moth(1, 24, 3), anew", 1, maps.moth(1, 24, 3));
        due.is("told(21)", 24, maps.told(21));
        due.is("told(31)", 3, maps.told(31));
        Due.doNights(maps, "B!");
        due.is("told(1), caught", 0, maps.told(1));
        due.is("moth(1, 3, 1), behind having been caught", 1, maps.moth(1, 3, 1));
        due.is("told(21)", 3, maps.told(21));
    }

    private void threadsTaken() {
        due.of("promise 5, UNKNOWN: threads are 1 to 3");
        due.ends("spool(thread, 5)", v -> new EatenMaps().spool(v, 5), 1, 9, 3, 9, UNKNOWN);
        EatenMaps maps = new EatenMaps();
        maps.spool(1, 5);
        maps.spool(3, 7);
        due.is("told(11)", 5, maps.told(11));
        due.is("told(12)", 9, maps.told(12));
        due.is("told(13)", 7, maps.told(13));
    }

    private void threadNumbersTaken() {
        due.of("promise 5, OUTSIDE: 0 to 99 of each thread");
        for (int thread = 1; thread <= 3; thread++) {
            int one = thread;
            due.ends("spool(" + one + ", v)", v -> new EatenMaps().spool(one, v), 0, 9, 99, 9, OUTSIDE);
            EatenMaps maps = new EatenMaps();
            maps.spool(one, 99);
            due.is("told(thread)", 99, maps.told(10 + one));
            due.is("spool(thread, 100)", OUTSIDE, maps.spool(one, 100));
            due.is("spool(thread, 0) tells how many there were", 99, maps.spool(one, 0));
            due.is("told(thread)", 0, maps.told(10 + one));
        }
    }

    private void signsTaken() {
        due.of("promise 6, OUTSIDE: signs of codes 33 to 126");
        due.ends("say(sign)", v -> new EatenMaps().say(v), 33, 1, 126, 1, OUTSIDE);
        EatenMaps maps = new EatenMaps();
        int said = 0;
        for (int sign = 0; sign <= 300; sign++) {
            boolean taken = sign >= 33 && sign <= 126;
            if (said == 60) {
                maps.wipe();
                said = 0;
            }
            said += taken ? 1 : 0;
            due.is("say(" + sign + ")", taken ? said : OUTSIDE, maps.say(sign));
        }
    }

    private void padFull() {
        due.of("promise 6, FULL: a pad holds 60 signs at most");
        EatenMaps maps = Due.written(".".repeat(58));
        due.is("say, the 59th", 59, maps.say('.'));
        due.is("say, the 60th", 60, maps.say('.'));
        for (int more = 0; more < 3; more++) {
            due.is("say, the 61st", FULL, maps.say('+'));
            due.is("told(0)", 60, maps.told(0));
            due.is("fault()", NONE, maps.fault());
        }
        due.is("say(127), the 61st: OUTSIDE is ahead of FULL", OUTSIDE, maps.say(127));
        due.is("then(2): all 60 are on the pad", 60, maps.then(2));
        maps.wipe();
        due.is("say, wiped", 1, maps.say('.'));
        Due.rewrite(maps, ".".repeat(60));
        maps.done();
        due.is("say, done", 1, maps.say('.'));
    }

    private void wipedOfNothingAndAll() {
        due.of("promise 7: signs go, how many there were");
        EatenMaps maps = new EatenMaps();
        due.is("wipe() of nothing", 0, maps.wipe());
        maps.say('A');
        due.is("wipe() of one", 1, maps.wipe());
        Due.write(maps, "x".repeat(60));
        due.is("wipe() of all 60", 60, maps.wipe());
        due.is("wipe() again", 0, maps.wipe());
        due.is("told(0)", 0, maps.told(0));
        due.is("fault()", NONE, maps.fault());
    }

    private void faultOfNothing() {
        due.of("promise 8, NONE: nothing on the pad");
        EatenMaps maps = new EatenMaps();
        due.is("fault()", NONE, maps.fault());
        due.is("judge(0)", NONE, maps.judge(0));
        due.is("judge(1)", NONE, maps.judge(1));
        due.is("done()", 0, maps.done());
    }

    /** Each of the 94 signs behind each beginning of an act: whether it may stand there, and more must come. */
    private void everySignInEveryPlace() {
        due.of("1, THE FAULT: each sign in each place of an act");
        signsBehind("", ".", "+%" + MOTHS);
        for (int moth = 0; moth < 4; moth++) {
            signsBehind(MOTHS.substring(moth, moth + 1), HEADS + "!", "");
        }
        signsBehind("+", CELLS, "");
        signsBehind("%", "", CELLS);
        signsBehind("%a", "123", "");
        signsBehind("%y", "123", "");
        for (String act : new String[] {".", "An", "D!", "+y", "%a1", "%y3"}) {
            signsBehind(act, ".", "+%" + MOTHS);
        }
    }

    private void signsBehind(String start, String ends, String goesOn) {
        for (char sign = 33; sign <= 126; sign++) {
            String text = start + sign;
            int want = start.length();
            if (ends.indexOf(sign) >= 0) {
                want = NONE;
            } else if (goesOn.indexOf(sign) >= 0) {
                want = text.length();
            }
            due.is("fault() of " + text, want, Due.written(text).fault());
            due.is("judge(0) of " + text + " is NO", want == NONE ? 0 : 1, Due.written(text).judge(0) == NO ? 1 : 0);
        }
    }

    private void faultWhereMoreMustCome() {
        due.of("1, THE FAULT: the number of signs, if more must come");
        for (String open : new String[] {"A", "B", "C", "D", "+", "%", "%a", "%y"}) {
            due.is("fault() of " + open, open.length(), Due.written(open).fault());
            String full = ".".repeat(60 - open.length()) + open;
            EatenMaps maps = Due.written(full);
            due.is("fault() of a full pad with " + open + " at its end", 60, maps.fault());
            due.is("say, so that it might end", FULL, maps.say('n'));
            due.is("done()", NO, maps.done());
        }
        for (String whole : new String[] {".", "Dw", "+y", "%y3"}) {
            String full = ".".repeat(60 - whole.length()) + whole;
            due.is("fault() of a full pad with " + whole + " at its end", NONE, Due.written(full).fault());
        }
    }

    private void faultIsTheFirst() {
        due.of("1, THE FAULT: the place, from 0 on, of the first sign that can not stand there");
        due.is("fault() of ?", 0, Due.written("?").fault());
        due.is("fault() of ??", 0, Due.written("??").fault());
        due.is("fault() of ?A", 0, Due.written("?A").fault());
        due.is("fault() of .?", 1, Due.written(".?").fault());
        due.is("fault() of AA", 1, Due.written("AA").fault());
        due.is("fault() of An?%", 2, Due.written("An?%").fault());
        due.is("fault() of %a?.", 2, Due.written("%a?.").fault());
        due.is("fault() of a full pad, its first sign", 0, Due.written("!" + ".".repeat(59)).fault());
        due.is("fault() of a full pad, its last sign", 59, Due.written(".".repeat(59) + "!").fault());
        due.is("fault() of a full pad, all its signs", 0, Due.written("!".repeat(60)).fault());
    }

    private void everyCellLetter() {
        due.of("1: cells 0 to 24 are a to y");
        for (int cell = 0; cell < 25; cell++) {
            EatenMaps maps = Due.painted("0".repeat(25));
            Due.write(maps, "+" + CELLS.charAt(cell) + "%" + CELLS.charAt(cell) + "3");
            for (int other = 0; other < 25; other++) {
                due.is("behind(" + other + ", 0) of cell " + cell, other == cell ? 5 : 0, maps.behind(other, 0));
                due.is("behind(" + other + ", 1) of cell " + cell, other == cell ? 3 : 0, maps.behind(other, 1));
            }
        }
    }

    private void everyMothLetter() {
        due.of("1: moths 0 to 3 are A to D");
        for (int moth = 0; moth < 4; moth++) {
            EatenMaps maps = new EatenMaps();
            for (int other = 0; other < 4; other++) {
                maps.moth(other, 12, 0);
            }
            Due.write(maps, MOTHS.charAt(moth) + "e");
            for (int other = 0; other < 4; other++) {
                due.is("flies(" + other + ", 1), turned " + moth, other == moth ? 1 : 0, maps.flies(other, 1));
            }
            Due.doNights(maps, MOTHS.charAt(moth) + "!");
            due.is("told(1), caught " + moth, 15 - (1 << moth), maps.told(1));
        }
    }

    private void everyHeading() {
        due.of("1: heads north 0, east 1, south 2, west 3; reason 2: it heads there already");
        for (int from = 0; from < 4; from++) {
            for (int to = 0; to < 4; to++) {
                EatenMaps maps = Due.written("A" + HEADS.charAt(to));
                maps.moth(0, 12, from);
                due.is("judge(1), from " + from + " to " + to, from == to ? 2 : NONE, maps.judge(1));
                due.is("flies(0, 1), from " + from + " to " + to, from == to ? NO : to, maps.flies(0, 1));
            }
        }
    }

    private void caughtIsNoMore() {
        due.of("1, !: it is caught, it is no more; reason 1");
        EatenMaps maps = new EatenMaps();
        maps.moth(0, 0, 1);
        maps.moth(3, 24, 3);
        for (String text : new String[] {"A!A!", "A!An", "A!Ae"}) {
            Due.rewrite(maps, text);
            due.is("judge(0) of " + text, 1, maps.judge(0));
            due.is("judge(1) of " + text, 1, maps.judge(1));
        }
        Due.rewrite(maps, "A!.");
        due.is("then(0): it eats no more", 1, maps.then(0));
        due.is("flies(3, 0): the other one does", 23, maps.flies(3, 0));
        maps.done();
        due.is("told(1)", 8, maps.told(1));
        due.is("told(20)", OUTSIDE, maps.told(20));
        due.is("told(30)", OUTSIDE, maps.told(30));
        due.is("flies(0, 0)", UNKNOWN, maps.flies(0, 0));
        Due.doNights(maps, "D!");
        due.is("told(1), none are left", 0, maps.told(1));
        Due.rewrite(maps, ".");
        due.is("then(0), none are left", 1, maps.then(0));
    }

    private void camphorForThreeNights() {
        due.of("1, +: camphor lies there for 3 nights; reason 3: for 3 nights or more already");
        for (int nights = 0; nights <= 9; nights++) {
            EatenMaps maps = Due.written("+m");
            maps.camphor(12, nights);
            due.is("judge(1), " + nights + " nights", nights >= 3 ? 3 : NONE, maps.judge(1));
            due.is("behind(12, 1), " + nights + " nights", nights >= 3 ? NO : 3, maps.behind(12, 1));
        }
        due.is("judge(1) of +m.+m", NONE, Due.written("+m.+m").judge(1));
        due.is("judge(1) of +m+m", 3, Due.written("+m+m").judge(1));
        due.is("behind(12, 1) of +m...", 0, Due.written("+m...").behind(12, 1));
    }

    private void darnedByEachThread() {
        due.of("1, %: a hole is darned, one of that thread; reason 4: it is no hole");
        int[] lands = {0, 2, 3, 5};
        for (int thread = 1; thread <= 3; thread++) {
            for (int land = 0; land <= 5; land++) {
                EatenMaps maps = Due.written("%m" + thread);
                maps.land(12, land);
                due.is("judge(1), land " + land, land == 0 ? NONE : 4, maps.judge(1));
                due.is("behind(12, 0), land " + land, land == 0 ? lands[thread] : NO, maps.behind(12, 0));
                due.is("done(), land " + land, land == 0 ? 1 : NO, maps.done());
                for (int other = 1; other <= 3; other++) {
                    due.is("told(thread)", land == 0 && other == thread ? 8 : 9, maps.told(10 + other));
                }
            }
        }
    }

    private void lastThread() {
        due.of("1, reason 5: there is no such thread left");
        for (int thread = 1; thread <= 3; thread++) {
            EatenMaps maps = Due.written("%a" + thread + "%y" + thread);
            maps.land(0, 0);
            maps.land(24, 0);
            maps.spool(thread, 2);
            due.is("judge(1), two left", NONE, maps.judge(1));
            due.is("then(1), two left", 18, maps.then(1));
            maps.spool(thread, 1);
            due.is("judge(0), one left", 1, maps.judge(0));
            due.is("judge(1), one left", 5, maps.judge(1));
            maps.spool(thread, 0);
            due.is("judge(0), none left", 0, maps.judge(0));
            due.is("judge(1), none left", 5, maps.judge(1));
            due.is("done(), none left", NO, maps.done());
            due.is("told(thread)", 0, maps.told(10 + thread));
        }
    }

    /** All 100 stands, by rows and columns: at the map's edge a moth turns right, and never comes round. */
    private void everyStandByNight() {
        due.of("1, .: to the cell beside, if there is one, else more to the right by a quarter");
        int[] down = {-1, 0, 1, 0};
        int[] right = {0, 1, 0, -1};
        for (int cell = 0; cell < 25; cell++) {
            for (int heads = 0; heads < 4; heads++) {
                int to = heads;
                while (!onMap(cell / 5 + down[to % 4], cell % 5 + right[to % 4])) {
                    to++;
                }
                int want = cell + 5 * down[to % 4] + right[to % 4];
                EatenMaps maps = Due.written(".");
                maps.moth(0, cell, heads);
                String from = " from " + cell + " heading " + heads;
                due.is("flies(0, 0)" + from, want, maps.flies(0, 0));
                due.is("flies(0, 1)" + from, to % 4, maps.flies(0, 1));
                due.is("behind(to, 0)" + from, 0, maps.behind(want, 0));
                due.is("behind(cell, 0)" + from, 1, maps.behind(cell, 0));
                due.is("then(0)" + from, 1, maps.then(0));
            }
        }
    }

    private static boolean onMap(int row, int column) {
        return row >= 0 && row < 5 && column >= 0 && column < 5;
    }

    private void turnsPastWest() {
        due.of("1, .: more to the right by a quarter, from west on to north");
        EatenMaps maps = Due.written(".");
        maps.moth(0, 10, 3);
        due.is("flies(0, 0)", 5, maps.flies(0, 0));
        due.is("flies(0, 1)", 0, maps.flies(0, 1));
        maps.camphor(5, 1);
        due.is("flies(0, 0), north barred", 11, maps.flies(0, 0));
        due.is("flies(0, 1), north barred", 1, maps.flies(0, 1));
        maps.camphor(11, 1);
        due.is("flies(0, 0), east barred", 15, maps.flies(0, 0));
        due.is("flies(0, 1), east barred", 2, maps.flies(0, 1));
        maps.moth(0, 12, 2);
        maps.camphor(17, 1);
        maps.camphor(11, 1);
        maps.camphor(7, 1);
        due.is("flies(0, 0), by three quarters", 13, maps.flies(0, 0));
        due.is("flies(0, 1), by three quarters", 1, maps.flies(0, 1));
    }

    private void staysInNoWay() {
        due.of("1, .: in no way it stays, heading as it did");
        int[][] around = {{0, 1, 5}, {4, 3, 9}, {20, 15, 21}, {24, 19, 23}, {2, 1, 3, 7}, {12, 7, 11, 13, 17}};
        for (int[] cells : around) {
            for (int heads = 0; heads < 4; heads++) {
                EatenMaps maps = Due.written(".");
                maps.moth(1, cells[0], heads);
                maps.land(cells[0], 4);
                for (int i = 1; i < cells.length; i++) {
                    maps.camphor(cells[i], 1);
                }
                due.is("flies(1, 0) in " + cells[0], cells[0], maps.flies(1, 0));
                due.is("flies(1, 1) in " + cells[0], heads, maps.flies(1, 1));
                due.is("behind(cell, 0): what it is on is not eaten", 4, maps.behind(cells[0], 0));
                due.is("then(0) in " + cells[0], 0, maps.then(0));
                due.is("then(3) in " + cells[0], NONE, maps.then(3));
                maps.say('.');
                due.is("then(0), the camphor gone", 1, maps.then(0));
            }
        }
    }

    private void camphorOnItsOwnCell() {
        due.of("1, .: no camphor on the cell to which it goes; its own does not matter");
        EatenMaps maps = Due.written(".");
        maps.moth(0, 12, 0);
        maps.camphor(12, 9);
        due.is("flies(0, 0)", 7, maps.flies(0, 0));
        due.is("behind(12, 1)", 8, maps.behind(12, 1));
    }

    private void everyLandIsEaten() {
        due.of("1, .: the cell to which it goes is a hole then");
        for (int land = 0; land <= 5; land++) {
            EatenMaps maps = Due.written(".");
            maps.moth(2, 0, 1);
            maps.land(1, land);
            due.is("behind(1, 0), land " + land, 0, maps.behind(1, 0));
            due.is("then(0), land " + land, 1, maps.then(0));
            due.is("then(4), land " + land, land == 4 ? 1 : NONE, maps.then(4));
        }
    }

    private void camphorANightLess() {
        due.of("1, .: then all camphor lies a night less, 0 at least");
        for (int nights = 0; nights <= 9; nights++) {
            EatenMaps maps = new EatenMaps();
            for (int cell = 0; cell < 25; cell++) {
                maps.camphor(cell, nights);
            }
            maps.say('.');
            for (int cell = 0; cell < 25; cell++) {
                due.is("behind(cell, 1), " + nights + " nights", nights == 0 ? 0 : nights - 1, maps.behind(cell, 1));
            }
        }
        EatenMaps maps = new EatenMaps();
        maps.camphor(24, 9);
        Due.doNights(maps, ".........");
        due.is("told(224), nine nights on", 0, maps.told(224));
        Due.doNights(maps, ".");
        due.is("told(224), ten nights on", 0, maps.told(224));
    }

    private void camphorBarsAllInItsLastNight() {
        due.of("1, .: camphor is less only when all moths have gone");
        EatenMaps maps = Due.written(".");
        maps.camphor(12, 1);
        int[] around = {17, 11, 7, 13};
        for (int moth = 0; moth < 4; moth++) {
            maps.moth(moth, around[moth], moth);
        }
        for (int moth = 0; moth < 4; moth++) {
            due.is("flies(" + moth + ", 1), barred", (moth + 1) % 4, maps.flies(moth, 1));
        }
        due.is("behind(12, 0)", 1, maps.behind(12, 0));
        due.is("behind(12, 1)", 0, maps.behind(12, 1));
    }

    private void leastReason() {
        due.of("1: the least of these reasons");
        EatenMaps maps = Due.written("%m2");
        maps.spool(2, 0);
        due.is("judge(1): 4 is ahead of 5", 4, maps.judge(1));
        maps.land(12, 0);
        due.is("judge(1): a hole", 5, maps.judge(1));
        maps.spool(2, 1);
        due.is("judge(1): a hole, a thread", NONE, maps.judge(1));
    }

    private void nightNinetyNine() {
        due.of("1, reason 6: it is night 99");
        EatenMaps maps = Due.atNight(98);
        due.is("told(2)", 98, maps.told(2));
        Due.write(maps, "..");
        due.is("judge(0) of .. in night 98", 1, maps.judge(0));
        due.is("judge(1) of .. in night 98", 6, maps.judge(1));
        due.is("done()", NO, maps.done());
        due.is("told(2)", 98, maps.told(2));
        due.is("done() of .", 1, Due.doNights(maps, "."));
        due.is("told(2)", 99, maps.told(2));
        maps.moth(0, 0, 1);
        maps.land(24, 0);
        Due.rewrite(maps, ".");
        due.is("judge(0) of . in night 99", 0, maps.judge(0));
        due.is("judge(1) of . in night 99", 6, maps.judge(1));
        due.is("then(2) of . in night 99", NO, maps.then(2));
        due.is("done() of all but a night", 4, Due.doNights(maps, "As+a%y1A!"));
        due.is("told(2)", 99, maps.told(2));
        due.is("told(224)", 0, maps.told(224));
        due.is("told(200)", 3, maps.told(200));
    }
}
