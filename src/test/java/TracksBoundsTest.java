/**
 * The boundary cases of part 4 of the document and of promises 19 to 28, a method for each sentence that names one:
 * the last night and sight, nothing that fits, the shortest strip and the longest, the ends of a row, images not kept.
 */
public final class TracksBoundsTest {
    private static final int NONE = -6, UNKNOWN = -1, OUTSIDE = -2, STATE = -3, FULL = -4;
    private static final long LOST_OUTSIDE = -1000000000000000002L;

    private final Due due = new Due();

    public static void main(String[] args) {
        TracksBoundsTest test = new TracksBoundsTest();
        test.seenCells();
        test.seenNights();
        test.seenFull();
        test.seenRefused();
        test.forgetNothingAndAll();
        test.beganNumbers();
        test.beganNothingFits();
        test.beganOneFits();
        test.beganFirstNightAndLast();
        test.beganWithoutCamphor();
        test.askWhat();
        test.askNothingFits();
        test.askFewAndMany();
        test.foldsInches();
        test.foldsWhat();
        test.foldsLost();
        test.foldsUnlike();
        test.coffeePlaces();
        test.coffeeTenths();
        test.coffeeNights();
        test.coffeePart();
        test.coffeeAtAnEnd();
        test.coffeeNever();
        test.coffeeRefusedInAll();
        test.yearSeeds();
        test.yearActs();
        test.yearWhat();
        test.yearFromAllAsItIs();
        test.yearNothingAndAll();
        test.yearNightNinetyNine();
        test.yearCamphor();
        test.yearThreads();
        test.yearMoths();
        test.questionsLeaveNothingBehind();
        test.imageNumbers();
        test.restoreNumbers();
        test.restoreNotKept();
        test.imageStaysAsItWas();
        test.imageWithoutThePad();
        test.imagesApart();
        test.toldNumbersOfNew();
        test.toldNumbersOfAll();
        test.toldMothsThere();
        test.aWholeLife();
        test.due.end();
    }

    private static EatenMaps withSights(int... nightsAndCells) {
        EatenMaps maps = new EatenMaps();
        for (int i = 0; i + 1 < nightsAndCells.length; i += 2) {
            maps.seen(nightsAndCells[i], nightsAndCells[i + 1]);
        }
        return maps;
    }

    private void seenCells() {
        due.of("promise 19, UNKNOWN: cells are 0 to 24");
        due.ends("seen(5, cell)", v -> new EatenMaps().seen(5, v), 0, 1, 24, 1, UNKNOWN);
    }

    private void seenNights() {
        due.of("promise 19, OUTSIDE: behind 0 to 40 nights");
        due.ends("seen(night, 5)", v -> new EatenMaps().seen(v, 5), 0, 1, 40, 1, OUTSIDE);
    }

    private void seenFull() {
        due.of("promise 19, FULL: 8 sights at most");
        EatenMaps maps = new EatenMaps();
        for (int n = 1; n <= 8; n++) {
            due.is("seen, sight " + n, n, maps.seen(0, 12));
        }
        for (int more = 0; more < 3; more++) {
            due.is("seen, the ninth", FULL, maps.seen(0, 13));
            due.is("told(4)", 8, maps.told(4));
            due.is("began(-1)", 4, maps.began(-1));
        }
        maps.forget();
        due.is("seen, forgotten", 1, maps.seen(0, 13));
    }

    private void seenRefused() {
        due.of("promise 19: UNKNOWN, OUTSIDE, FULL in this order");
        EatenMaps maps = new EatenMaps();
        for (int n = 0; n <= 8; n++) {
            due.is("seen(41, 25)", UNKNOWN, maps.seen(41, 25));
            due.is("seen(-1, -1)", UNKNOWN, maps.seen(-1, -1));
            due.is("seen(0, 25)", UNKNOWN, maps.seen(0, 25));
            due.is("seen(41, 0)", OUTSIDE, maps.seen(41, 0));
            due.is("seen(-1, 24)", OUTSIDE, maps.seen(-1, 24));
            due.is("told(4)", n, maps.told(4));
            due.is("seen(40, 24)", n < 8 ? n + 1 : FULL, maps.seen(40, 24));
        }
    }

    private void forgetNothingAndAll() {
        due.of("promise 20: sights go, how many there were");
        EatenMaps maps = new EatenMaps();
        due.is("forget() of nothing", 0, maps.forget());
        maps.seen(40, 24);
        due.is("forget() of one", 1, maps.forget());
        for (int n = 0; n < 9; n++) {
            maps.seen(n, 0);
        }
        due.is("forget() of all 8", 8, maps.forget());
        due.is("forget() again", 0, maps.forget());
        due.is("told(4)", 0, maps.told(4));
        due.is("began(-1)", 100, maps.began(-1));
    }

    private void beganNumbers() {
        due.of("promise 21: how many (-1), the i-th, NONE");
        due.ends("began(i), all fit", v -> new EatenMaps().began(v), -1, 100, 99, 243, NONE);
        due.ends("began(i), four fit", v -> withSights(0, 0).began(v), -1, 4, 3, 3, NONE);
        due.ends("began(i), four fit", v -> withSights(0, 24).began(v), -1, 4, 3, 243, NONE);
        due.is("began(0), all fit", 0, new EatenMaps().began(0));
        due.is("began(4), all fit: 3 is the last heading", 10, new EatenMaps().began(4));
    }

    private void beganNothingFits() {
        due.of("promise 21, NONE: nothing fits");
        for (int[] sights : new int[][] {{0, 0, 0, 1}, {0, 0, 1, 24}, {40, 12}, {5, 3, 5, 4}}) {
            EatenMaps maps = withSights(sights);
            due.is("began(-1)", 0, maps.began(-1));
            due.is("began(0)", NONE, maps.began(0));
            due.is("began(99)", NONE, maps.began(99));
        }
    }

    private void beganOneFits() {
        due.of("promise 21: one fits");
        due.ends("began(i), one fits", v -> withSights(0, 12, 1, 7).began(v), -1, 1, 0, 120, NONE);
        due.ends("began(i), one fits, told 4 times", v -> withSights(1, 7, 0, 12, 1, 7, 0, 12).began(v),
            -1, 1, 0, 120, NONE);
    }

    /** From cell 0 a moth goes round the map in 16 nights, but for the one that heads south: that comes back first. */
    private void beganFirstNightAndLast() {
        due.of("4: sights behind 0 to 40 nights");
        int[] round = {0, 1, 2, 3, 4, 9, 14, 19, 24, 23, 22, 21, 20, 15, 10, 5};
        for (int night = 0; night <= 40; night++) {
            EatenMaps maps = withSights(0, 0, 16, 0, night, round[night % 16]);
            due.is("began(-1), night " + night, 3, maps.began(-1));
            due.is("those that did not head south, night " + night, 3, begunEast(maps));
            EatenMaps other = withSights(0, 0, night, round[(night + 1) % 16]);
            due.is("those that did not head south, a cell too far, night " + night, 0, begunEast(other));
        }
        due.is("began(-1), night 40 in cell 24", 3, withSights(0, 0, 40, 24).began(-1));
        due.is("began(2), night 40 in cell 24", 3, withSights(0, 0, 40, 24).began(2));
        due.is("began(-1), night 40 in cell 0", 1, withSights(0, 0, 40, 0).began(-1));
        due.is("began(0), night 40 in cell 0", 2, withSights(0, 0, 40, 0).began(0));
    }

    /** How many of those that fit began in cell 0 and did not head south. */
    private static int begunEast(EatenMaps maps) {
        int count = 0;
        for (int i = 0; i < maps.began(-1); i++) {
            int start = maps.began(i);
            count += start == 0 || start == 1 || start == 3 ? 1 : 0;
        }
        return count;
    }

    private void beganWithoutCamphor() {
        due.of("4: on a map without camphor, whatever there is now");
        EatenMaps maps = withSights(0, 12, 1, 7);
        for (int cell = 0; cell < 25; cell++) {
            maps.camphor(cell, 9);
            maps.land(cell, 0);
        }
        maps.moth(0, 0, 0);
        due.is("began(-1)", 1, maps.began(-1));
        due.is("began(0)", 120, maps.began(0));
        due.is("ask(0)", 0, maps.ask(0));
        due.is("ask(1)", 1, maps.ask(1));
    }

    private void askWhat() {
        due.of("promise 22, OUTSIDE: what is 0 or 1");
        due.ends("ask(what)", v -> new EatenMaps().ask(v), 0, 0, 1, 4, OUTSIDE);
        due.ends("ask(what), nothing fits", v -> withSights(0, 0, 0, 1).ask(v), 0, NONE, 1, NONE, OUTSIDE);
    }

    private void askNothingFits() {
        due.of("promise 22, NONE: nothing fits");
        for (int[] sights : new int[][] {{0, 0, 0, 1}, {40, 12}, {3, 0, 4, 24}}) {
            due.is("ask(0)", NONE, withSights(sights).ask(0));
            due.is("ask(1)", NONE, withSights(sights).ask(1));
        }
    }

    private void askFewAndMany() {
        due.of("4, ASK: fewest are left at the most; the least night");
        due.is("ask(0), one fits", 0, withSights(0, 12, 1, 7).ask(0));
        due.is("ask(1), one fits", 1, withSights(0, 12, 1, 7).ask(1));
        due.is("ask(0), all fit", 0, new EatenMaps().ask(0));
        due.is("ask(1), all fit", 4, new EatenMaps().ask(1));
        due.is("ask(0), four headings in the middle", 1, withSights(0, 12).ask(0));
        due.is("ask(1), four headings in the middle", 1, withSights(0, 12).ask(1));
        due.is("ask(0), a corner: three go the same way", 1, withSights(0, 0).ask(0));
        due.is("ask(1), a corner: three go the same way", 3, withSights(0, 0).ask(1));
        due.is("ask(0), these three: nothing parts them", 0, withSights(0, 0, 1, 1).ask(0));
        due.is("ask(1), these three: nothing parts them", 3, withSights(0, 0, 1, 1).ask(1));
    }

    private void foldsInches() {
        due.of("promise 23, OUTSIDE: 0 to 60 inches");
        due.ends("folds(n, 0)", v -> new EatenMaps().folds(v, 0), 0, 0, 60, 1, OUTSIDE);
        due.ends("folds(n, 1)", v -> new EatenMaps().folds(v, 1), 0, NONE, 60, 7, OUTSIDE);
    }

    private void foldsWhat() {
        due.of("promise 23, OUTSIDE: what is 0 or 1");
        due.ends("folds(0, what)", v -> new EatenMaps().folds(0, v), 0, 0, 1, NONE, OUTSIDE);
        due.ends("folds(60, what)", v -> new EatenMaps().folds(60, v), 0, 1, 1, 7, OUTSIDE);
        due.is("folds(61, 2)", OUTSIDE, new EatenMaps().folds(61, 2));
    }

    private void foldsLost() {
        due.of("4, FOLDS: who can not has lost; NONE");
        String lost = " 0 1 2 4 7 10 20 23 26 50 53 ";
        for (int n = 0; n <= 60; n++) {
            boolean loses = lost.indexOf(" " + n + " ") >= 0;
            due.is("folds(" + n + ", 0)", loses ? 0 : 1, new EatenMaps().folds(n, 0));
            due.is("folds(" + n + ", 1) is NONE", loses ? 1 : 0, new EatenMaps().folds(n, 1) == NONE ? 1 : 0);
        }
    }

    private void foldsUnlike() {
        due.of("4, FOLDS: two that are not alike, none of nothing; the lesser part, the least");
        due.is("folds(1, 0): none of nothing", 0, new EatenMaps().folds(1, 0));
        due.is("folds(2, 0): 1 and 1 are alike", 0, new EatenMaps().folds(2, 0));
        due.is("folds(3, 1): 1 and 2", 1, new EatenMaps().folds(3, 1));
        due.is("folds(4, 0): 2 and 2 are alike", 0, new EatenMaps().folds(4, 0));
        due.is("folds(5, 1): 1 and 4", 1, new EatenMaps().folds(5, 1));
        due.is("folds(6, 1): 2 and 4", 2, new EatenMaps().folds(6, 1));
        for (int n = 3; n <= 60; n++) {
            int part = new EatenMaps().folds(n, 1);
            due.is("folds(" + n + ", 1), lesser", 1, part == NONE || part >= 1 && 2 * part < n ? 1 : 0);
        }
    }

    private void coffeePlaces() {
        due.of("promise 24, OUTSIDE: m 0 to 9, p and q 0 to m");
        due.ends("coffee(m, 0, 3, 3, 2, 0, 1)", v -> new EatenMaps().coffee(v, 0, 3, 3, 2, 0, 1),
            0, 1, 9, 50, LOST_OUTSIDE);
        for (int m = 0; m <= 9; m++) {
            int last = m;
            due.ends("coffee(" + m + ", p, 3, 3, 0, 0, 0)", v -> new EatenMaps().coffee(last, v, 3, 3, 0, 0, 0),
                0, 1, m, m == 0 ? 1 : 0, LOST_OUTSIDE);
            due.ends("coffee(" + m + ", 0, 3, 3, 0, q, 0)", v -> new EatenMaps().coffee(last, 0, 3, 3, 0, v, 0),
                0, 1, m, m == 0 ? 1 : 0, LOST_OUTSIDE);
        }
    }

    private void coffeeTenths() {
        due.of("promise 24, OUTSIDE: a, b 0 to 10, 10 at most together");
        due.ends("coffee(3, 0, a, 0, 1, 1, 0)", v -> new EatenMaps().coffee(3, 0, v, 0, 1, 1, 0),
            0, 0, 10, 1, LOST_OUTSIDE);
        due.ends("coffee(3, 1, 0, b, 1, 0, 0)", v -> new EatenMaps().coffee(3, 1, 0, v, 1, 0, 0),
            0, 0, 10, 1, LOST_OUTSIDE);
        for (int a = 0; a <= 10; a++) {
            int east = a;
            due.ends("coffee(3, 0, " + a + ", b, 0, 0, 1)", v -> new EatenMaps().coffee(3, 0, east, v, 0, 0, 1),
                0, 1, 10 - a, 1, LOST_OUTSIDE);
            due.ends("coffee(3, 0, a, " + a + ", 0, 0, 1)", v -> new EatenMaps().coffee(3, 0, v, east, 0, 0, 1),
                0, 1, 10 - a, 1, LOST_OUTSIDE);
        }
        due.is("coffee(3, 0, 11, -1, 0, 0, 0)", LOST_OUTSIDE, new EatenMaps().coffee(3, 0, 11, -1, 0, 0, 0));
        due.is("coffee(3, 0, -1, 11, 0, 0, 0)", LOST_OUTSIDE, new EatenMaps().coffee(3, 0, -1, 11, 0, 0, 0));
        int far = Integer.MAX_VALUE;
        due.is("coffee(3, 0, max, max, 0, 0, 0)", LOST_OUTSIDE, new EatenMaps().coffee(3, 0, far, far, 0, 0, 0));
        due.is("coffee(3, 0, min, max, 0, 0, 0)", LOST_OUTSIDE, new EatenMaps().coffee(3, 0, -far - 1, far, 0, 0, 0));
    }

    private void coffeeNights() {
        due.of("promise 24, OUTSIDE: n 0 to 16");
        due.ends("coffee(9, 0, 1, 0, n, 0, 0)", v -> new EatenMaps().coffee(9, 0, 1, 0, v, 0, 0),
            0, 1, 16, 1853020188851841L, LOST_OUTSIDE);
        due.ends("coffee(9, 0, 1, 0, n, 0, 1)", v -> new EatenMaps().coffee(9, 0, 1, 0, v, 0, 1),
            0, 1, 16, 10000000000000000L, LOST_OUTSIDE);
    }

    private void coffeePart() {
        due.of("promise 24, OUTSIDE: part 0 the upper, 1 the lower, in lowest terms");
        due.ends("coffee(1, 0, 4, 0, 1, 1, part)", v -> new EatenMaps().coffee(1, 0, 4, 0, 1, 1, v),
            0, 2, 1, 5, LOST_OUTSIDE);
        due.ends("coffee(1, 0, 10, 0, 16, 1, part)", v -> new EatenMaps().coffee(1, 0, 10, 0, 16, 1, v),
            0, 1, 1, 1, LOST_OUTSIDE);
    }

    private void isCoffee(int[] v, long upper, long lower) {
        String call = "coffee(" + java.util.Arrays.toString(v);
        due.is(call + ", 0)", upper, new EatenMaps().coffee(v[0], v[1], v[2], v[3], v[4], v[5], 0));
        due.is(call + ", 1)", lower, new EatenMaps().coffee(v[0], v[1], v[2], v[3], v[4], v[5], 1));
    }

    private void coffeeAtAnEnd() {
        due.of("4, COFFEE: at an end it stays instead");
        for (int n = 0; n <= 16; n++) {
            isCoffee(new int[] {0, 0, 3, 7, n, 0}, 1, 1);
            isCoffee(new int[] {9, 9, 10, 0, n, 9}, 1, 1);
            isCoffee(new int[] {9, 0, 0, 10, n, 0}, 1, 1);
            isCoffee(new int[] {9, 4, 0, 0, n, 4}, 1, 1);
        }
        isCoffee(new int[] {9, 9, 3, 2, 1, 9}, 4, 5);
        isCoffee(new int[] {9, 9, 3, 2, 1, 8}, 1, 5);
        isCoffee(new int[] {9, 0, 3, 2, 1, 0}, 7, 10);
        isCoffee(new int[] {9, 0, 3, 2, 1, 1}, 3, 10);
        isCoffee(new int[] {9, 0, 10, 0, 9, 9}, 1, 1);
        isCoffee(new int[] {9, 9, 0, 10, 9, 0}, 1, 1);
    }

    private void coffeeNever() {
        due.of("4, COFFEE: a place to which it can not have come, 0 by 1");
        isCoffee(new int[] {9, 0, 10, 0, 8, 9}, 0, 1);
        isCoffee(new int[] {9, 9, 0, 10, 8, 0}, 0, 1);
        isCoffee(new int[] {9, 4, 3, 3, 0, 5}, 0, 1);
        isCoffee(new int[] {9, 4, 0, 5, 16, 5}, 0, 1);
        isCoffee(new int[] {9, 0, 0, 10, 16, 9}, 0, 1);
        isCoffee(new int[] {9, 9, 5, 0, 16, 0}, 0, 1);
    }

    private void coffeeRefusedInAll() {
        due.of("promise 24: refused once, however many numbers are not as told");
        due.is("coffee of all beyond", LOST_OUTSIDE, new EatenMaps().coffee(10, 10, 11, 11, 17, 10, 2));
        due.is("coffee of all below", LOST_OUTSIDE, new EatenMaps().coffee(-1, -1, -1, -1, -1, -1, -1));
    }

    private void yearSeeds() {
        due.of("promise 25, OUTSIDE: a seed of 0 to 9999");
        due.ends("year(seed, 1, 1)", v -> new EatenMaps().year(v, 1, 1), 0, 27, 9999, 27, OUTSIDE);
        EatenMaps maps = new EatenMaps();
        maps.moth(0, 0, 1);
        maps.land(9, 0);
        due.is("year(0, 1, 0): x is 74, cell 9 is darned green", 0, maps.year(0, 1, 0));
        due.is("year(0, 1, 1)", 26, maps.year(0, 1, 1));
        due.is("year(9999, 1, 0): x is 29092, a night", 2, maps.year(9999, 1, 0));
        due.is("year(9999, 1, 1)", 27, maps.year(9999, 1, 1));
    }

    private void yearActs() {
        due.of("promise 25, OUTSIDE: 1 to 99 acts");
        due.ends("year(0, m, 0)", v -> new EatenMaps().year(0, v, 0), 1, 0, 99, 0, OUTSIDE);
        int seed = seedWithLast();
        EatenMaps maps = new EatenMaps();
        int cell = drawn(seed, 99) / 8 % 25;
        maps.land(cell, 0);
        due.is("year(" + seed + ", 98, 0)", 1, maps.year(seed, 98, 0));
        due.is("year(" + seed + ", 99, 0): the 99th act darns", 0, maps.year(seed, 99, 0));
        due.is("year(" + seed + ", 100, 0)", OUTSIDE, maps.year(seed, 100, 0));
        due.is("year(" + seed + ", 0, 0)", OUTSIDE, maps.year(seed, 0, 0));
    }

    private static int draw(int x) {
        return (75 * x + 74) % 65537;
    }

    private static int drawn(int seed, int acts) {
        int x = seed;
        for (int i = 0; i < acts; i++) {
            x = draw(x);
        }
        return x;
    }

    /** A seed whose 99th act darns a cell that none of the acts before it darns. */
    private static int seedWithLast() {
        for (int seed = 0; seed < 10000; seed++) {
            int last = drawn(seed, 99);
            boolean alone = last % 8 == 2 || last % 8 == 3;
            for (int acts = 1; acts < 99 && alone; acts++) {
                int x = drawn(seed, acts);
                alone = x % 8 != 2 && x % 8 != 3 || x / 8 % 25 != last / 8 % 25;
            }
            if (alone) {
                return seed;
            }
        }
        return -1;
    }

    /** The first seed from one on whose first draws are of these kinds, 4 for any night. */
    private static int seedFrom(int least, int... kinds) {
        for (int seed = least; seed < 10000; seed++) {
            int x = seed;
            boolean all = true;
            for (int kind : kinds) {
                x = draw(x);
                all &= Math.min(x % 8, 4) == kind;
            }
            if (all) {
                return seed;
            }
        }
        return -1;
    }

    private void yearWhat() {
        due.of("promise 25, OUTSIDE: what is 0 to 2");
        due.ends("year(7, 9, what)", v -> Due.painted("4".repeat(25)).year(7, 9, v), 0, 0, 2, 25, OUTSIDE);
        due.is("year(10000, 100, 3)", OUTSIDE, new EatenMaps().year(10000, 100, 3));
    }

    private void yearFromAllAsItIs() {
        due.of("4, A YEAR: from all as it is, nothing is done in fact");
        for (String text : new String[] {"", "...A!", "A", "Bn"}) {
            EatenMaps maps = Due.written(text);
            maps.moth(0, 0, 1);
            int seed = seedFrom(0, 4, 4, 4);
            for (int times = 0; times < 3; times++) {
                due.is("year(seed, 3, 0) by " + text, 3, maps.year(seed, 3, 0));
                due.is("told(3) by " + text, 0, maps.told(3));
                due.is("told(2) by " + text, 0, maps.told(2));
                due.is("told(20) by " + text, 0, maps.told(20));
            }
        }
    }

    private void yearNothingAndAll() {
        due.of("4, A YEAR: holes, threads, towns, none and all");
        EatenMaps maps = Due.painted("4".repeat(25));
        due.is("year(1, 99, 2), all towns, no moth", 25, maps.year(1, 99, 2));
        due.is("year(1, 99, 0), no hole", 0, maps.year(1, 99, 0));
        due.is("year(1, 99, 1)", 27, maps.year(1, 99, 1));
        for (int thread = 1; thread <= 3; thread++) {
            maps.spool(thread, 99);
        }
        due.is("year(1, 99, 1), all threads", 297, maps.year(1, 99, 1));
        EatenMaps holes = Due.painted("0".repeat(25));
        for (int thread = 1; thread <= 3; thread++) {
            holes.spool(thread, 0);
        }
        for (int seed = 0; seed < 100; seed++) {
            due.is("year(" + seed + ", 99, 0), all holes, no thread", 25, holes.year(seed, 99, 0));
            due.is("year(" + seed + ", 99, 1), no thread", 0, holes.year(seed, 99, 1));
            due.is("year(" + seed + ", 99, 2), no town", 0, holes.year(seed, 99, 2));
        }
    }

    private void yearNightNinetyNine() {
        due.of("4, A YEAR: each if that can be, no night behind night 99");
        for (int night = 95; night <= 99; night++) {
            EatenMaps maps = Due.atNight(night);
            for (int thread = 1; thread <= 3; thread++) {
                maps.spool(thread, 0);
            }
            maps.moth(0, 0, 1);
            int seed = seedFrom(0, 4, 4, 4, 4, 4, 4);
            due.is("year(seed, 6, 0) from night " + night, 99 - night, maps.year(seed, 6, 0));
        }
    }

    /** A moth, all ways but one barred for long: the town on that side stands as long as camphor lies there. */
    private void yearCamphor() {
        due.of("4, A YEAR: camphor for 3 nights, if less lies there");
        int looked = 0;
        for (int seed = seedFrom(0, 1, 4, 4, 4, 4); seed >= 0; seed = seedFrom(seed + 1, 1, 4, 4, 4, 4)) {
            int town = draw(seed) / 8 % 25;
            int moth = town % 5 < 4 ? town + 1 : town - 1;
            looked++;
            for (int nights = 0; nights <= 9; nights++) {
                EatenMaps maps = new EatenMaps();
                for (int cell = 0; cell < 25; cell++) {
                    maps.camphor(cell, 9);
                }
                maps.moth(0, moth, 0);
                maps.land(town, 4);
                maps.camphor(town, nights);
                int barred = Math.max(3, nights);
                for (int acts = 1; acts <= 5; acts++) {
                    due.is("year(" + seed + ", " + acts + ", 2), " + nights + " nights", acts - 1 > barred ? 0 : 1,
                        maps.year(seed, acts, 2));
                }
            }
        }
        due.is("seeds were looked at", 1, looked > 0 ? 1 : 0);
    }

    private void yearThreads() {
        due.of("4, A YEAR: darned, if there is a hole and such a thread left");
        for (int seed = 0; seed < 10000; seed += 7) {
            int x = draw(seed);
            if (x % 8 != 2 && x % 8 != 3) {
                continue;
            }
            int thread = 1 + x / 8 / 25 % 3;
            EatenMaps maps = Due.painted("0".repeat(25));
            for (int other = 1; other <= 3; other++) {
                maps.spool(other, other == thread ? 1 : 0);
            }
            due.is("year(" + seed + ", 1, 0), the last of it", 24, maps.year(seed, 1, 0));
            due.is("year(" + seed + ", 1, 1), the last of it", 0, maps.year(seed, 1, 1));
            for (int other = 1; other <= 3; other++) {
                maps.spool(other, other == thread ? 0 : 99);
            }
            due.is("year(" + seed + ", 1, 0), none of it", 25, maps.year(seed, 1, 0));
            due.is("year(" + seed + ", 1, 1), none of it", 198, maps.year(seed, 1, 1));
            maps.spool(thread, 9);
            maps.land(x / 8 % 25, 1);
            due.is("year(" + seed + ", 1, 0), no hole", 24, maps.year(seed, 1, 0));
            due.is("year(" + seed + ", 1, 1), no hole", 207, maps.year(seed, 1, 1));
        }
    }

    private void yearMoths() {
        due.of("4, A YEAR: a moth heads there, if it is there");
        int[] around = {7, 13, 17, 11};
        for (int seed = seedFrom(0, 0, 4); seed >= 0; seed = seedFrom(seed + 1, 0, 4)) {
            int y = draw(seed) / 8;
            int heads = y / 4 % 4;
            EatenMaps maps = new EatenMaps();
            maps.moth(y % 4, 12, (heads + 1) % 4);
            maps.land(around[heads], 4);
            due.is("year(" + seed + ", 2, 2), turned", 0, maps.year(seed, 2, 2));
            Due.doNights(maps, "ABCD".charAt(y % 4) + "!");
            maps.moth((y + 1) % 4, 12, (heads + 1) % 4);
            due.is("year(" + seed + ", 2, 2), another one", 1, maps.year(seed, 2, 2));
        }
    }

    /** One object asked again and again, against new ones that are asked once. */
    private void questionsLeaveNothingBehind() {
        due.of("4: what was asked before does not matter");
        EatenMaps asked = new EatenMaps();
        int[][] sights = {{0, 0}, {1, 1}, {}, {40, 24}, {0, 0, 0, 1}, {0, 12, 1, 7}, {2, 2}, {}, {4, 0, 5, 1}};
        for (int[] some : sights) {
            EatenMaps fresh = withSights(some);
            asked.forget();
            for (int i = 0; i + 1 < some.length; i += 2) {
                asked.seen(some[i], some[i + 1]);
            }
            for (int i = -1; i <= 7; i++) {
                due.is("began(" + i + ")", fresh.began(i), asked.began(i));
            }
            due.is("ask(0)", fresh.ask(0), asked.ask(0));
            due.is("ask(1)", fresh.ask(1), asked.ask(1));
        }
        for (int m = 9; m >= 0; m--) {
            for (int q = 0; q <= m; q++) {
                due.is("coffee(" + m + ", ..)", new EatenMaps().coffee(m, m / 2, 3, 4, m + 7, q, 0),
                    asked.coffee(m, m / 2, 3, 4, m + 7, q, 0));
            }
        }
        asked.moth(1, 7, 3);
        for (int seed = 0; seed < 50; seed++) {
            EatenMaps fresh = new EatenMaps();
            fresh.moth(1, 7, 3);
            due.is("year(" + seed + ", 60, 0)", fresh.year(seed, 60, 0), asked.year(seed, 60, 0));
        }
    }

    private void imageNumbers() {
        due.of("promise 26, OUTSIDE: images 0, 1");
        due.ends("image(n)", v -> new EatenMaps().image(v), 0, 1, 1, 1, OUTSIDE);
    }

    private static EatenMaps withImages() {
        EatenMaps maps = new EatenMaps();
        maps.image(0);
        maps.image(1);
        return maps;
    }

    private void restoreNumbers() {
        due.of("promise 27, OUTSIDE: images 0, 1");
        due.ends("restore(n), both kept", v -> withImages().restore(v), 0, 1, 1, 1, OUTSIDE);
    }

    private void restoreNotKept() {
        due.of("promise 27, STATE: it was not kept");
        due.ends("restore(n), none kept", v -> new EatenMaps().restore(v), 0, STATE, 1, STATE, OUTSIDE);
        for (int kept = 0; kept <= 1; kept++) {
            EatenMaps maps = new EatenMaps();
            maps.image(2);
            due.is("restore(kept), not yet kept", STATE, maps.restore(kept));
            maps.image(kept);
            maps.land(3, 3);
            due.is("restore(other)", STATE, maps.restore(1 - kept));
            due.is("told(103): refused", 3, maps.told(103));
            due.is("restore(kept)", 1, maps.restore(kept));
            due.is("told(103)", 1, maps.told(103));
            due.is("restore(other) still", STATE, maps.restore(1 - kept));
            due.is("restore(kept) again", 1, maps.restore(kept));
        }
    }

    /** Fills all that an image keeps with one number or another. */
    private static void fill(EatenMaps maps, int v) {
        for (int cell = 0; cell < 25; cell++) {
            maps.land(cell, v);
            maps.camphor(cell, v);
        }
        for (int moth = 0; moth < 4; moth++) {
            maps.moth(moth, v, v);
        }
        for (int thread = 1; thread <= 3; thread++) {
            maps.spool(thread, v);
        }
        maps.forget();
        for (int i = 0; i < v; i++) {
            maps.seen(v, v);
        }
    }

    private void isFilled(EatenMaps maps, int v, int night) {
        for (int cell = 0; cell < 25; cell++) {
            due.is("told(100 and " + cell + ")", v, maps.told(100 + cell));
            due.is("told(200 and " + cell + ")", v, maps.told(200 + cell));
        }
        for (int moth = 0; moth < 4; moth++) {
            due.is("told(20 and " + moth + ")", v, maps.told(20 + moth));
            due.is("told(30 and " + moth + ")", v, maps.told(30 + moth));
        }
        for (int thread = 1; thread <= 3; thread++) {
            due.is("told(10 and " + thread + ")", v, maps.told(10 + thread));
        }
        due.is("told(4)", v, maps.told(4));
        due.is("told(2)", night, maps.told(2));
        EatenMaps same = new EatenMaps();
        for (int i = 0; i < v; i++) {
            same.seen(v, v);
        }
        due.is("began(-1)", same.began(-1), maps.began(-1));
        due.is("began(0)", same.began(0), maps.began(0));
    }

    private void imageStaysAsItWas() {
        due.of("promise 27: it is as it was when it was kept");
        EatenMaps maps = new EatenMaps();
        Due.doNights(maps, "..");
        fill(maps, 2);
        maps.image(1);
        Due.doNights(maps, "A!D!...");
        fill(maps, 3);
        due.is("restore(1)", 1, maps.restore(1));
        isFilled(maps, 2, 2);
        Due.doNights(maps, "A!B!C!D!.");
        maps.forget();
        due.is("told(1)", 0, maps.told(1));
        due.is("restore(1) again", 1, maps.restore(1));
        isFilled(maps, 2, 2);
    }

    private void imageWithoutThePad() {
        due.of("promise 26: all but the pad is kept");
        EatenMaps maps = Due.written("..");
        maps.image(0);
        due.is("told(0), kept", 2, maps.told(0));
        maps.say('.');
        maps.restore(0);
        due.is("told(0), more signs", 3, maps.told(0));
        due.is("then(2)", 3, maps.then(2));
        maps.wipe();
        maps.restore(0);
        due.is("told(0), wiped", 0, maps.told(0));
        Due.write(maps, "A");
        maps.restore(0);
        due.is("fault(), another text", 1, maps.fault());
    }

    private void imagesApart() {
        due.of("promise 26: images 0 and 1 are apart, and may be kept anew");
        EatenMaps maps = new EatenMaps();
        maps.land(0, 2);
        maps.image(0);
        maps.land(0, 3);
        maps.image(1);
        maps.land(0, 4);
        maps.restore(0);
        due.is("told(100) of image 0", 2, maps.told(100));
        maps.restore(1);
        due.is("told(100) of image 1", 3, maps.told(100));
        maps.land(0, 5);
        due.is("image(0), anew", 1, maps.image(0));
        due.is("told(100): keeping changes nothing", 5, maps.told(100));
        maps.restore(1);
        due.is("told(100) of image 1", 3, maps.told(100));
        maps.restore(0);
        due.is("told(100) of image 0", 5, maps.told(100));
    }

    private void toldNumbersOfNew() {
        due.of("promise 28, OUTSIDE: what is told of a new object");
        EatenMaps maps = new EatenMaps();
        for (int what = -100; what <= 350; what++) {
            int want = OUTSIDE;
            if (what >= 0 && what <= 4 || what >= 200 && what <= 224) {
                want = 0;
            } else if (what >= 11 && what <= 13) {
                want = 9;
            } else if (what >= 100 && what <= 124) {
                want = 1;
            }
            due.is("told(" + what + ")", want, maps.told(what));
        }
        due.is("told(min)", OUTSIDE, maps.told(Integer.MIN_VALUE));
        due.is("told(max)", OUTSIDE, maps.told(Integer.MAX_VALUE));
    }

    private void toldNumbersOfAll() {
        due.of("promise 28: all there is");
        EatenMaps maps = Due.atNight(99);
        fill(maps, 0);
        for (int moth = 0; moth < 4; moth++) {
            maps.moth(moth, 24, 3);
        }
        for (int i = 0; i < 8; i++) {
            maps.seen(40, 24);
        }
        maps.camphor(24, 9);
        maps.spool(3, 99);
        maps.land(24, 5);
        Due.write(maps, "~".repeat(60));
        int[][] all = {{0, 60}, {1, 15}, {2, 99}, {3, 24}, {4, 8}, {11, 0}, {13, 99}, {20, 24}, {23, 24}, {30, 3},
            {33, 3}, {100, 0}, {124, 5}, {200, 0}, {224, 9}};
        for (int[] one : all) {
            due.is("told(" + one[0] + ")", one[1], maps.told(one[0]));
        }
        for (int what : new int[] {-1, 5, 10, 14, 19, 24, 29, 34, 99, 125, 199, 225}) {
            due.is("told(" + what + ")", OUTSIDE, maps.told(what));
        }
    }

    private void toldMothsThere() {
        due.of("promise 28, OUTSIDE: a moth that is there");
        for (int moth = 0; moth < 4; moth++) {
            EatenMaps maps = new EatenMaps();
            maps.moth(moth, 17, 2);
            for (int other = 0; other < 4; other++) {
                due.is("told(20 and " + other + ")", other == moth ? 17 : OUTSIDE, maps.told(20 + other));
                due.is("told(30 and " + other + ")", other == moth ? 2 : OUTSIDE, maps.told(30 + other));
            }
            due.is("told(1)", 1 << moth, maps.told(1));
        }
    }

    private void aWholeLife() {
        due.of("what it is: an object is used for 512 calls");
        EatenMaps maps = new EatenMaps();
        for (int call = 0; call < 505; call++) {
            maps.spool(1 + call % 3, call % 100);
        }
        due.is("call 506: moth", 1, maps.moth(0, 0, 1));
        due.is("call 507: say", 1, maps.say('.'));
        due.is("call 508: image", 1, maps.image(0));
        due.is("call 509: done", 1, maps.done());
        due.is("call 510: told(3)", 1, maps.told(3));
        due.is("call 511: restore", 1, maps.restore(0));
        due.is("call 512: told(3)", 0, maps.told(3));
    }
}
