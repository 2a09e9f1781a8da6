import java.math.BigInteger;

/** Promises 19 to 28: where a moth began, folds, coffee, years, images, what is told. */
public final class TracksTest {
    private final Due due = new Due();

    public static void main(String[] args) {
        TracksTest test = new TracksTest();
        test.seen();
        test.forget();
        test.began();
        test.ask();
        test.folds();
        test.foldsByPlay();
        test.coffee();
        test.coffeeInAll();
        test.coffeeRefusals();
        test.year();
        test.yearActs();
        test.image();
        test.restore();
        test.told();
        test.due.end();
    }

    private void seen() {
        due.of("promise 19");
        EatenMaps maps = new EatenMaps();
        due.is("seen(0, 25)", -1, maps.seen(0, 25));
        due.is("seen(0, -1)", -1, maps.seen(0, -1));
        due.is("seen(41, 25)", -1, maps.seen(41, 25));
        due.is("seen(41, 0)", -2, maps.seen(41, 0));
        due.is("seen(-1, 0)", -2, maps.seen(-1, 0));
        for (int n = 1; n <= 8; n++) {
            due.is("seen(40, 24)", n, maps.seen(40, 24));
        }
        due.is("seen(0, 0), the ninth", -4, maps.seen(0, 0));
        due.is("seen(41, 0), the ninth", -2, maps.seen(41, 0));
        due.is("seen(0, 25), the ninth", -1, maps.seen(0, 25));
        due.is("told(4)", 8, maps.told(4));
    }

    private void forget() {
        due.of("promise 20");
        EatenMaps maps = new EatenMaps();
        due.is("forget()", 0, maps.forget());
        maps.seen(0, 12);
        maps.seen(1, 12);
        due.is("began(-1)", 0, maps.began(-1));
        due.is("forget()", 2, maps.forget());
        due.is("told(4)", 0, maps.told(4));
        due.is("began(-1)", 100, maps.began(-1));
        due.is("seen(3, 3)", 1, maps.seen(3, 3));
    }

    private void began() {
        due.of("promise 21");
        EatenMaps maps = new EatenMaps();
        for (int i = 0; i < 100; i++) {
            due.is("began(" + i + ")", i / 4 * 10 + i % 4, maps.began(i));
        }
        due.is("began(100)", -6, maps.began(100));
        due.is("began(-2)", -6, maps.began(-2));
        due.is("began(min)", -6, maps.began(Integer.MIN_VALUE));
        maps.camphor(13, 9);
        maps.seen(1, 13);
        due.is("began(-1)", 4, maps.began(-1));
        int[] fits = {82, 121, 143, 180, -6};
        for (int i = 0; i < fits.length; i++) {
            due.is("began(" + i + "), whatever camphor lies", fits[i], maps.began(i));
        }
        maps.seen(1, 14);
        due.is("began(-1), two cells in one night", 0, maps.began(-1));
        due.is("began(0)", -6, maps.began(0));
        maps.forget();
        maps.seen(40, 12);
        due.is("began(-1), no moth comes to the middle again", 0, maps.began(-1));
        maps.forget();
        maps.seen(2, 2);
        maps.seen(2, 2);
        maps.seen(0, 12);
        due.is("began(-1), told twice", 1, maps.began(-1));
        due.is("began(0)", 120, maps.began(0));
    }

    private void ask() {
        due.of("promise 22");
        EatenMaps maps = new EatenMaps();
        due.is("ask(2)", -2, maps.ask(2));
        due.is("ask(-1)", -2, maps.ask(-1));
        due.is("ask(0)", 0, maps.ask(0));
        due.is("ask(1)", 4, maps.ask(1));
        maps.seen(0, 12);
        due.is("ask(0)", 1, maps.ask(0));
        due.is("ask(1)", 1, maps.ask(1));
        maps.forget();
        maps.seen(0, 0);
        due.is("ask(0), of a corner", 1, maps.ask(0));
        due.is("ask(1), of a corner", 3, maps.ask(1));
        maps.seen(0, 1);
        due.is("ask(0), nothing fits", -6, maps.ask(0));
        due.is("ask(1), nothing fits", -6, maps.ask(1));
        due.is("ask(2), nothing fits", -2, maps.ask(2));
    }

    private void folds() {
        due.of("promise 23");
        EatenMaps maps = new EatenMaps();
        for (int n = 0; n <= 2; n++) {
            due.is("folds(" + n + ", 0)", 0, maps.folds(n, 0));
            due.is("folds(" + n + ", 1)", -6, maps.folds(n, 1));
        }
        due.is("folds(61, 0)", -2, maps.folds(61, 0));
        due.is("folds(-1, 0)", -2, maps.folds(-1, 0));
        due.is("folds(3, 2)", -2, maps.folds(3, 2));
        due.is("folds(3, -1)", -2, maps.folds(3, -1));
        int[] worth = new int[61];
        for (int n = 0; n <= 60; n++) {
            worth[n] = worthOf(n, worth);
            int part = -6;
            for (int lesser = (n - 1) / 2; lesser >= 1; lesser--) {
                part = worth[lesser] == worth[n - lesser] ? lesser : part;
            }
            due.is("folds(" + n + ", 0)", worth[n] == 0 ? 0 : 1, maps.folds(n, 0));
            due.is("folds(" + n + ", 1)", part, maps.folds(n, 1));
        }
    }

    private static int worthOf(int n, int[] worth) {
        boolean[] had = new boolean[64];
        for (int part = 1; part < n - part; part++) {
            had[worth[part] ^ worth[n - part]] = true;
        }
        int least = 0;
        while (had[least]) {
            least++;
        }
        return least;
    }

    /** The game itself, played out on all strips at once, without any theory of it. */
    private void foldsByPlay() {
        due.of("promise 23, played");
        EatenMaps maps = new EatenMaps();
        for (int n = 0; n <= 18; n++) {
            java.util.Map<String, Boolean> known = new java.util.HashMap<>();
            int[] strips = new int[61];
            strips[n]++;
            due.is("folds(" + n + ", 0)", wins(strips, known) ? 1 : 0, maps.folds(n, 0));
        }
    }

    private static boolean wins(int[] strips, java.util.Map<String, Boolean> known) {
        String key = java.util.Arrays.toString(strips);
        Boolean before = known.get(key);
        if (before != null) {
            return before;
        }
        boolean won = false;
        for (int n = 3; n < strips.length && !won; n++) {
            for (int part = 1; strips[n] > 0 && part < n - part && !won; part++) {
                int[] next = strips.clone();
                next[n]--;
                next[part]++;
                next[n - part]++;
                won = !wins(next, known);
            }
        }
        known.put(key, won);
        return won;
    }

    private void coffee() {
        due.of("promise 24");
        EatenMaps maps = new EatenMaps();
        isCoffee(maps, new int[] {9, 3, 4, 4, 0, 3}, 1, 1);
        isCoffee(maps, new int[] {9, 3, 4, 4, 0, 4}, 0, 1);
        isCoffee(maps, new int[] {9, 3, 4, 2, 1, 4}, 2, 5);
        isCoffee(maps, new int[] {9, 3, 4, 2, 1, 2}, 1, 5);
        isCoffee(maps, new int[] {9, 3, 4, 2, 1, 3}, 2, 5);
        isCoffee(maps, new int[] {9, 9, 4, 2, 1, 9}, 4, 5);
        isCoffee(maps, new int[] {9, 0, 4, 2, 1, 0}, 3, 5);
        isCoffee(maps, new int[] {2, 0, 1, 0, 2, 2}, 1, 100);
        isCoffee(maps, new int[] {9, 0, 1, 0, 9, 9}, 1, 1000000000L);
        isCoffee(maps, new int[] {1, 0, 1, 0, 16, 0}, 1853020188851841L, 10000000000000000L);
        isCoffee(maps, new int[] {9, 9, 0, 10, 16, 0}, 1, 1);
        isCoffee(maps, new int[] {0, 0, 10, 0, 16, 0}, 1, 1);
    }

    private void isCoffee(EatenMaps maps, int[] v, long upper, long lower) {
        String call = "coffee(" + java.util.Arrays.toString(v);
        due.is(call + ", 0)", upper, maps.coffee(v[0], v[1], v[2], v[3], v[4], v[5], 0));
        due.is(call + ", 1)", lower, maps.coffee(v[0], v[1], v[2], v[3], v[4], v[5], 1));
    }

    /** The chances of all places are one together, and each is in lowest terms. */
    private void coffeeInAll() {
        due.of("promise 24, all places");
        EatenMaps maps = new EatenMaps();
        for (int n = 0; n <= 16; n++) {
            BigInteger whole = BigInteger.TEN.pow(n);
            BigInteger sum = BigInteger.ZERO;
            for (int q = 0; q <= 6; q++) {
                BigInteger upper = BigInteger.valueOf(maps.coffee(6, 2, 3, 1, n, q, 0));
                BigInteger lower = BigInteger.valueOf(maps.coffee(6, 2, 3, 1, n, q, 1));
                due.is("lowest terms", 1, upper.gcd(lower).intValue());
                sum = sum.add(whole.multiply(upper).divide(lower));
            }
            due.is("sum of all", 1, sum.equals(whole) ? 1 : 0);
        }
    }

    private void coffeeRefusals() {
        due.of("promise 24, refused");
        long refused = -1000000000000000002L;
        EatenMaps maps = new EatenMaps();
        int[][] wrong = {{10, 0, 0, 0, 0, 0, 0}, {-1, 0, 0, 0, 0, 0, 0}, {3, 4, 0, 0, 0, 0, 0}, {3, -1, 0, 0, 0, 0, 0},
            {3, 0, 11, 0, 0, 0, 0}, {3, 0, -1, 0, 0, 0, 0}, {3, 0, 0, 11, 0, 0, 0}, {3, 0, 0, -1, 0, 0, 0},
            {3, 0, 6, 5, 0, 0, 0}, {3, 0, 11, -1, 0, 0, 0}, {3, 0, 5, 5, 17, 0, 0}, {3, 0, 5, 5, -1, 0, 0},
            {3, 0, 5, 5, 0, 4, 0}, {3, 0, 5, 5, 0, -1, 0}, {3, 0, 5, 5, 0, 0, 2}, {3, 0, 5, 5, 0, 0, -1},
            {3, 0, Integer.MAX_VALUE, Integer.MAX_VALUE, 0, 0, 0}};
        for (int[] v : wrong) {
            due.is("coffee(" + java.util.Arrays.toString(v) + ")", refused,
                maps.coffee(v[0], v[1], v[2], v[3], v[4], v[5], v[6]));
        }
        due.is("coffee(3, 0, 5, 5, 0, 0, 1)", 1, maps.coffee(3, 0, 5, 5, 0, 0, 1));
    }

    private void year() {
        due.of("promise 25");
        EatenMaps maps = new EatenMaps();
        due.is("year(-1, 1, 0)", -2, maps.year(-1, 1, 0));
        due.is("year(10000, 1, 0)", -2, maps.year(10000, 1, 0));
        due.is("year(0, 0, 0)", -2, maps.year(0, 0, 0));
        due.is("year(0, 100, 0)", -2, maps.year(0, 100, 0));
        due.is("year(0, 1, 3)", -2, maps.year(0, 1, 3));
        due.is("year(0, 1, -1)", -2, maps.year(0, 1, -1));
        due.is("year(9999, 99, 1)", 27, maps.year(9999, 99, 1));
        maps.moth(0, 0, 1);
        maps.moth(1, 24, 3);
        maps.land(6, 4);
        maps.land(12, 4);
        Due.write(maps, "A");
        due.is("year(77, 99, 0)", 18, maps.year(77, 99, 0));
        due.is("year(5, 40, 0)", 19, maps.year(5, 40, 0));
        due.is("year(5, 40, 1)", 21, maps.year(5, 40, 1));
        due.is("told(0): nothing is done", 1, maps.told(0));
        due.is("told(2): nothing is done", 0, maps.told(2));
        due.is("told(3): nothing is done", 0, maps.told(3));
        due.is("told(20): nothing is done", 0, maps.told(20));
    }

    /** Seeds whose first draw is a known act: x is (75 seed and 74) left over by 65537. */
    private void yearActs() {
        due.of("promise 25, single acts");
        int[] seen = new int[8];
        for (int seed = 0; seed < 10000; seed += 19) {
            int x = (75 * seed + 74) % 65537;
            int y = x / 8;
            EatenMaps maps = new EatenMaps();
            maps.land(y % 25, 0);
            maps.land((y + 7) % 25, 4);
            maps.moth(0, 12, 0);
            maps.land(7, 4);
            maps.spool(1, 1);
            maps.spool(2, 2);
            maps.spool(3, 4);
            maps.spool(1 + y / 25 % 3, 0);
            int towns = countTowns(maps);
            int threads = maps.then(1);
            int holes = maps.told(3);
            boolean night = x % 8 >= 4;
            due.is("year(seed, 1, 1), no thread left", threads, maps.year(seed, 1, 1));
            due.is("year(seed, 1, 2)", night ? towns - 1 : towns, maps.year(seed, 1, 2));
            maps.spool(1 + y / 25 % 3, 50);
            boolean darns = (x % 8 == 2 || x % 8 == 3) && maps.told(100 + y % 25) == 0;
            due.is("year(seed, 1, 1)", threads + (darns ? 49 : 50), maps.year(seed, 1, 1));
            due.is("year(seed, 1, 0)", holes + (darns ? -1 : night ? 1 : 0), maps.year(seed, 1, 0));
            seen[x % 8]++;
        }
        for (int kind = 0; kind < 8; kind++) {
            due.is("draws of kind " + kind, 1, seen[kind] > 0 ? 1 : 0);
        }
        EatenMaps late = new EatenMaps();
        Due.doNights(late, ".".repeat(60));
        Due.doNights(late, ".".repeat(39));
        late.moth(0, 0, 1);
        due.is("year(1, 99, 0), at night 99", 0, late.year(1, 99, 0));
    }

    private static int countTowns(EatenMaps maps) {
        int towns = 0;
        for (int cell = 0; cell < 25; cell++) {
            towns += maps.told(100 + cell) == 4 ? 1 : 0;
        }
        return towns;
    }

    private void image() {
        due.of("promise 26");
        EatenMaps maps = new EatenMaps();
        due.is("image(2)", -2, maps.image(2));
        due.is("image(-1)", -2, maps.image(-1));
        due.is("image(1)", 1, maps.image(1));
        due.is("restore(0)", -3, maps.restore(0));
        due.is("restore(1)", 1, maps.restore(1));
        due.is("image(0)", 1, maps.image(0));
        maps.land(4, 4);
        due.is("image(0), again", 1, maps.image(0));
        maps.land(4, 2);
        due.is("restore(0)", 1, maps.restore(0));
        due.is("told(104)", 4, maps.told(104));
        due.is("restore(1)", 1, maps.restore(1));
        due.is("told(104)", 1, maps.told(104));
    }

    private void restore() {
        due.of("promise 27");
        EatenMaps maps = new EatenMaps();
        maps.moth(1, 3, 2);
        maps.land(20, 3);
        maps.camphor(21, 7);
        maps.spool(2, 33);
        maps.seen(1, 13);
        Due.doNights(maps, "..");
        Due.write(maps, "B!");
        maps.image(1);
        maps.done();
        maps.moth(0, 0, 0);
        maps.moth(1, 17, 0);
        maps.land(20, 5);
        maps.camphor(21, 1);
        maps.spool(2, 1);
        maps.seen(0, 0);
        Due.doNights(maps, "...");
        Due.write(maps, "+a.");
        due.is("restore(1)", 1, maps.restore(1));
        due.is("told(0): the pad stays", 3, maps.told(0));
        due.is("told(1)", 2, maps.told(1));
        due.is("told(2)", 2, maps.told(2));
        due.is("told(3)", 2, maps.told(3));
        due.is("told(4)", 1, maps.told(4));
        due.is("told(12)", 33, maps.told(12));
        due.is("told(21)", 13, maps.told(21));
        due.is("told(31)", 2, maps.told(31));
        due.is("told(120)", 3, maps.told(120));
        due.is("told(221)", 5, maps.told(221));
        due.is("began(-1)", 4, maps.began(-1));
        due.is("began(3)", 180, maps.began(3));
        maps.seen(0, 18);
        due.is("began(-1)", 1, maps.began(-1));
        due.is("restore(2)", -2, maps.restore(2));
        due.is("restore(-1)", -2, maps.restore(-1));
        due.is("restore(0)", -3, maps.restore(0));
        due.is("told(4)", 2, maps.told(4));
        maps.forget();
        maps.seen(2, 2);
        maps.seen(3, 3);
        due.is("restore(1), again", 1, maps.restore(1));
        due.is("told(4)", 1, maps.told(4));
        due.is("began(-1): the sight of then", 4, maps.began(-1));
        due.is("began(0): the sight of then", 82, maps.began(0));
    }

    private void told() {
        due.of("promise 28");
        EatenMaps maps = new EatenMaps();
        maps.moth(3, 18, 2);
        maps.land(24, 0);
        maps.land(0, 5);
        maps.camphor(24, 8);
        maps.spool(3, 77);
        maps.seen(0, 0);
        Due.doNights(maps, ".");
        Due.write(maps, "zz");
        int[][] all = {{0, 2}, {1, 8}, {2, 1}, {3, 2}, {4, 1}, {11, 9}, {12, 9}, {13, 77}, {23, 23}, {33, 2},
            {100, 5}, {101, 1}, {123, 0}, {124, 0}, {200, 0}, {224, 7}};
        for (int[] one : all) {
            due.is("told(" + one[0] + ")", one[1], maps.told(one[0]));
        }
        int[] outside = {-1, 5, 9, 10, 14, 19, 20, 21, 22, 24, 29, 30, 31, 32, 34, 99, 125, 199, 225, 300,
            Integer.MAX_VALUE, Integer.MIN_VALUE};
        for (int what : outside) {
            due.is("told(" + what + ")", -2, maps.told(what));
        }
    }
}
