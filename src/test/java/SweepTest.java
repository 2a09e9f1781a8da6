import java.math.BigInteger;
import java.util.Arrays;
import java.util.Random;

/** Questions of few kinds, but all or very many of each kind, answered once more by other means. */
public final class SweepTest {
    private static final int CELLS = 25, NONE = -6, MOTHS_WAY_IN = 2 * CELLS, NODES = 2 * CELLS + 1, ENDLESS = 100;

    private final Due due = new Due();
    private final int[][] room = new int[NODES][NODES];

    public static void main(String[] args) {
        SweepTest test = new SweepTest();
        test.camphored();
        test.darned();
        test.began();
        test.coffee();
        test.due.end();
    }

    /** All choices of up to two cells for moths, and each ninth one of three and four, for each cell. */
    private void camphored() {
        due.of("promise 16, by flows");
        int many = 0;
        for (int moths = 0; moths < 1 << CELLS; moths++) {
            int count = Integer.bitCount(moths);
            if (count <= 2 || count <= 4 && ++many % 9 == 0) {
                camphoredFrom(moths);
            }
        }
    }

    private void camphoredFrom(int moths) {
        EatenMaps maps = new EatenMaps();
        int moth = 0;
        for (int cell = 0; cell < CELLS; cell++) {
            if ((moths >> cell & 1) != 0) {
                maps.moth(moth, cell, moth);
                moth++;
            }
        }
        for (int cell = 0; cell < CELLS; cell++) {
            int which = leastCut(moths, cell);
            String call = "camphored(" + cell + ", ..) with moths in " + Integer.toBinaryString(moths);
            due.is(call, which == NONE ? NONE : Integer.bitCount(which), maps.camphored(cell, 0));
            due.is(call, which, maps.camphored(cell, 1));
        }
    }

    /** As many cells as ways that share none; of the highest cells each is spared without which it still can be. */
    private int leastCut(int moths, int harbour) {
        int left = (moths >> harbour & 1) != 0 ? ENDLESS : waysApart(moths, harbour, 0, 0);
        if (left > 4) {
            return NONE;
        }
        int spared = moths | 1 << harbour;
        int laid = 0;
        for (int cell = CELLS - 1; cell >= 0; cell--) {
            int bit = 1 << cell;
            if ((spared & bit) == 0) {
                if (waysApart(moths, harbour, spared | bit, laid) == left) {
                    spared |= bit;
                } else {
                    laid |= bit;
                    left--;
                }
            }
        }
        return laid;
    }

    /** How many ways from moths to the harbour share no cell but spared ones; more than 4 is told as 5. */
    private int waysApart(int moths, int harbour, int spared, int laid) {
        for (int[] row : room) {
            Arrays.fill(row, 0);
        }
        for (int a = 0; a < CELLS; a++) {
            if ((laid >> a & 1) != 0) {
                continue;
            }
            room[2 * a][2 * a + 1] = ((moths | spared) >> a & 1) != 0 ? ENDLESS : 1;
            room[MOTHS_WAY_IN][2 * a] = (moths >> a & 1) != 0 ? ENDLESS : 0;
            for (int b = 0; b < CELLS; b++) {
                boolean near = Math.abs(a / 5 - b / 5) + Math.abs(a % 5 - b % 5) == 1;
                room[2 * a + 1][2 * b] = near && (laid >> b & 1) == 0 ? ENDLESS : 0;
            }
        }
        int ways = 0;
        while (ways <= 4 && oneWayMore(2 * harbour)) {
            ways++;
        }
        return ways;
    }

    private boolean oneWayMore(int to) {
        int[] from = new int[NODES];
        Arrays.fill(from, -1);
        from[MOTHS_WAY_IN] = MOTHS_WAY_IN;
        int[] queue = new int[NODES];
        queue[0] = MOTHS_WAY_IN;
        int end = 1;
        for (int i = 0; i < end && from[to] < 0; i++) {
            for (int node = 0; node < NODES; node++) {
                if (from[node] < 0 && room[queue[i]][node] > 0) {
                    from[node] = queue[i];
                    queue[end++] = node;
                }
            }
        }
        if (from[to] < 0) {
            return false;
        }
        for (int node = to; node != MOTHS_WAY_IN; node = from[node]) {
            room[from[node]][node]--;
            room[node][from[node]]++;
        }
        return true;
    }

    /** All 512 choices of holes in three rows of three, in two corners, among fields and among towns. */
    private void darned() {
        due.of("promise 17, all holes of three rows of three");
        for (int corner : new int[] {0, 12}) {
            for (int others : new int[] {1, 4}) {
                for (int holes = 0; holes < 512; holes++) {
                    EatenMaps maps = new EatenMaps();
                    Naive naive = new Naive();
                    for (int cell = 0; cell < CELLS; cell++) {
                        maps.land(cell, others);
                        naive.land(cell, others);
                    }
                    for (int i = 0; i < 9; i++) {
                        int cell = corner + 5 * (i / 3) + i % 3;
                        int land = (holes >> i & 1) != 0 ? 0 : others;
                        maps.land(cell, land);
                        naive.land(cell, land);
                    }
                    due.is("darned(0), " + holes, naive.darned(0), maps.darned(0));
                    due.is("darned(1), " + holes, naive.darned(1), maps.darned(1));
                }
            }
        }
    }

    /** Each sight alone, and with one to seven drawn ones, of which some do not fit. */
    private void began() {
        due.of("promises 21, 22");
        Random random = new Random(20261119L);
        for (int sight = 0; sight < 41 * CELLS; sight++) {
            EatenMaps maps = new EatenMaps();
            Naive naive = new Naive();
            maps.seen(sight / CELLS, sight % CELLS);
            naive.seen(sight / CELLS, sight % CELLS);
            beganAndAsk(maps, naive);
            for (int more = random.nextInt(8); more > 0; more--) {
                int night = random.nextInt(41);
                int cell = random.nextInt(CELLS);
                maps.seen(night, cell);
                naive.seen(night, cell);
                beganAndAsk(maps, naive);
            }
        }
    }

    private void beganAndAsk(EatenMaps maps, Naive naive) {
        int fitting = naive.began(-1);
        due.is("began(-1)", fitting, maps.began(-1));
        for (int i = 0; i <= fitting; i++) {
            due.is("began(" + i + ")", naive.began(i), maps.began(i));
        }
        due.is("ask(0)", naive.ask(0), maps.ask(0));
        due.is("ask(1)", naive.ask(1), maps.ask(1));
    }

    /** All rows, places, tenths and nights. */
    private void coffee() {
        due.of("promise 24, all there is");
        for (int m = 0; m <= 9; m++) {
            for (int p = 0; p <= m; p++) {
                for (int a = 0; a <= 10; a++) {
                    for (int b = 0; a + b <= 10; b++) {
                        coffeeFrom(m, p, a, b);
                    }
                }
            }
        }
    }

    private void coffeeFrom(int m, int p, int a, int b) {
        BigInteger[] parts = new BigInteger[m + 1];
        Arrays.fill(parts, BigInteger.ZERO);
        parts[p] = BigInteger.ONE;
        BigInteger all = BigInteger.ONE;
        for (int n = 0; n <= 16; n++) {
            EatenMaps maps = new EatenMaps();
            for (int q = 0; q <= m; q++) {
                BigInteger common = parts[q].gcd(all);
                String call = "coffee(" + m + ", " + p + ", " + a + ", " + b + ", " + n + ", " + q + ", ..)";
                due.is(call, parts[q].divide(common).longValueExact(), maps.coffee(m, p, a, b, n, q, 0));
                due.is(call, all.divide(common).longValueExact(), maps.coffee(m, p, a, b, n, q, 1));
            }
            parts = nightBehind(parts, a, b);
            all = all.multiply(BigInteger.TEN);
        }
    }

    private static BigInteger[] nightBehind(BigInteger[] parts, int a, int b) {
        BigInteger[] next = new BigInteger[parts.length];
        for (int i = 0; i < parts.length; i++) {
            boolean west = i == 0;
            boolean east = i == parts.length - 1;
            int staying = 10 - a - b + (west ? b : 0) + (east ? a : 0);
            next[i] = parts[i].multiply(BigInteger.valueOf(staying));
            next[i] = west ? next[i] : next[i].add(parts[i - 1].multiply(BigInteger.valueOf(a)));
            next[i] = east ? next[i] : next[i].add(parts[i + 1].multiply(BigInteger.valueOf(b)));
        }
        return next;
    }
}
