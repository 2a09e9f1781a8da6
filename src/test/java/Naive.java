import java.math.BigInteger;
import java.util.ArrayList;
import java.util.Arrays;
import java.util.List;
import java.util.TreeMap;
import java.util.regex.Matcher;
import java.util.regex.Pattern;

/**
 * The document's face once more, by other and plainer means (text patterns, rows and columns, all subsets),
 * to be compared with EatenMaps call by call.
 */
final class Naive {
    private static final int NONE = -6, UNKNOWN = -1, OUTSIDE = -2, STATE = -3, FULL = -4, NO = -5;
    private static final String ACT = "[A-D][nesw!]|\\+[a-y]|%[a-y][1-3]|\\.";
    private static final Pattern ACTS = Pattern.compile(ACT);
    private static final Pattern WHOLE_TEXT = Pattern.compile("(" + ACT + ")*");
    private static final Pattern OPEN_TEXT = Pattern.compile("(" + ACT + ")*([A-D]|\\+|%[a-y]?)?");

    /** All that an image keeps. */
    private static final class World {
        int[] land = new int[25];
        int[] camphor = new int[25];
        /** By moth: row, column, heading. */
        TreeMap<Integer, int[]> moths = new TreeMap<>();
        int[] thread = {0, 9, 9, 9};
        int night;
        List<int[]> sights = new ArrayList<>();
        List<Integer> eatenTowns = new ArrayList<>();

        World copy() {
            World other = new World();
            other.land = land.clone();
            other.camphor = camphor.clone();
            moths.forEach((moth, at) -> other.moths.put(moth, at.clone()));
            other.thread = thread.clone();
            other.night = night;
            other.sights.addAll(sights);
            return other;
        }

        int count(int what) {
            return (int) Arrays.stream(land).filter(v -> v == what).count();
        }

        int threads() {
            return Arrays.stream(thread).sum();
        }

        void pass() {
            for (int[] at : moths.values()) {
                if (step(at, camphor)) {
                    int cell = 5 * at[0] + at[1];
                    if (land[cell] == 4) {
                        eatenTowns.add(cell);
                    }
                    land[cell] = 0;
                }
            }
            for (int i = 0; i < 25; i++) {
                camphor[i] -= camphor[i] > 0 ? 1 : 0;
            }
            night++;
        }

        /** Why an act can not be; 0 if it was done. */
        int act(String act) {
            char first = act.charAt(0);
            if (first == '.') {
                if (night == 99) {
                    return 6;
                }
                pass();
                return 0;
            }
            int cell = act.charAt(1) - 'a';
            if (first == '+') {
                if (camphor[cell] >= 3) {
                    return 3;
                }
                camphor[cell] = 3;
                return 0;
            }
            if (first == '%') {
                int colour = act.charAt(2) - '0';
                if (land[cell] != 0) {
                    return 4;
                }
                if (thread[colour] == 0) {
                    return 5;
                }
                thread[colour]--;
                land[cell] = new int[] {0, 2, 3, 5}[colour];
                return 0;
            }
            int moth = first - 'A';
            if (!moths.containsKey(moth)) {
                return 1;
            }
            if (act.charAt(1) == '!') {
                moths.remove(moth);
                return 0;
            }
            int heads = "nesw".indexOf(act.charAt(1));
            if (moths.get(moth)[2] == heads) {
                return 2;
            }
            moths.get(moth)[2] = heads;
            return 0;
        }
    }

    private World now = new World();
    private final World[] images = new World[2];
    private String pad = "";

    Naive() {
        Arrays.fill(now.land, 1);
    }

    private static boolean step(int[] at, int[] camphor) {
        int[] rows = {-1, 0, 1, 0};
        int[] columns = {0, 1, 0, -1};
        for (int turn = 0; turn < 4; turn++) {
            int heads = (at[2] + turn) & 3;
            int row = at[0] + rows[heads];
            int column = at[1] + columns[heads];
            if (inMap(row, column) && camphor[5 * row + column] == 0) {
                at[0] = row;
                at[1] = column;
                at[2] = heads;
                return true;
            }
        }
        return false;
    }

    private static boolean inMap(int row, int column) {
        return row >= 0 && row < 5 && column >= 0 && column < 5;
    }

    private static boolean near(int a, int b) {
        return Math.abs(a / 5 - b / 5) + Math.abs(a % 5 - b % 5) == 1;
    }

    private static boolean bad(int v, int least, int most) {
        return v < least || v > most;
    }

    int land(int cell, int v) {
        if (bad(cell, 0, 24)) return UNKNOWN;
        if (bad(v, 0, 5)) return OUTSIDE;
        int was = now.land[cell];
        now.land[cell] = v;
        return was;
    }

    int camphor(int cell, int nights) {
        if (bad(cell, 0, 24)) return UNKNOWN;
        if (bad(nights, 0, 9)) return OUTSIDE;
        int was = now.camphor[cell];
        now.camphor[cell] = nights;
        return was;
    }

    int moth(int moth, int cell, int heads) {
        if (bad(moth, 0, 3) || bad(cell, 0, 24)) return UNKNOWN;
        if (bad(heads, 0, 3)) return OUTSIDE;
        now.moths.put(moth, new int[] {cell / 5, cell % 5, heads});
        return now.moths.size();
    }

    int spool(int thread, int v) {
        if (bad(thread, 1, 3)) return UNKNOWN;
        if (bad(v, 0, 99)) return OUTSIDE;
        int was = now.thread[thread];
        now.thread[thread] = v;
        return was;
    }

    int say(int sign) {
        if (bad(sign, 33, 126)) return OUTSIDE;
        if (pad.length() == 60) return FULL;
        pad += (char) sign;
        return pad.length();
    }

    int wipe() {
        int were = pad.length();
        pad = "";
        return were;
    }

    int fault() {
        for (int i = 0; i < pad.length(); i++) {
            if (!OPEN_TEXT.matcher(pad.substring(0, i + 1)).matches()) {
                return i;
            }
        }
        return WHOLE_TEXT.matcher(pad).matches() ? NONE : pad.length();
    }

    private List<String> acts() {
        List<String> acts = new ArrayList<>();
        Matcher matcher = ACTS.matcher(pad);
        while (matcher.find()) {
            acts.add(matcher.group());
        }
        return acts;
    }

    int judge(int what) {
        if (bad(what, 0, 1)) return OUTSIDE;
        if (fault() != NONE) return NO;
        World world = now.copy();
        List<String> acts = acts();
        for (int i = 0; i < acts.size(); i++) {
            int why = world.act(acts.get(i));
            if (why != 0) {
                return what == 0 ? i : why;
            }
        }
        return NONE;
    }

    private boolean canBe() {
        return fault() == NONE && judge(0) == NONE;
    }

    private World after() {
        World world = now.copy();
        acts().forEach(world::act);
        return world;
    }

    int done() {
        if (!canBe()) return NO;
        int acts = acts().size();
        now = after();
        pad = "";
        return acts;
    }

    int behind(int cell, int what) {
        if (bad(cell, 0, 24)) return UNKNOWN;
        if (bad(what, 0, 1)) return OUTSIDE;
        if (!canBe()) return NO;
        return what == 0 ? after().land[cell] : after().camphor[cell];
    }

    int flies(int moth, int what) {
        if (!now.moths.containsKey(moth)) return UNKNOWN;
        if (bad(what, 0, 1)) return OUTSIDE;
        if (!canBe()) return NO;
        int[] at = after().moths.get(moth);
        if (at == null) return NONE;
        return what == 0 ? 5 * at[0] + at[1] : at[2];
    }

    int then(int what) {
        if (bad(what, 0, 4)) return OUTSIDE;
        if (!canBe()) return NO;
        World world = after();
        if (what == 0) return world.count(0);
        if (what == 1) return world.threads();
        if (what == 2) return world.night;
        if (what == 4) return world.eatenTowns.isEmpty() ? NONE : world.eatenTowns.get(0);
        World slow = now.copy();
        for (String act : acts()) {
            slow.act(act);
            if (!slow.eatenTowns.isEmpty()) {
                return slow.night - now.night - 1;
            }
        }
        return NONE;
    }

    int road(int from, int to) {
        if (bad(from, 0, 24) || bad(to, 0, 24)) return UNKNOWN;
        return steps(from, to)[0];
    }

    /** By how many holes are darned: the fewest steps (NONE). */
    private int[] steps(int from, int to) {
        int far = 1000;
        int[][] best = new int[26][25];
        int[] answers = new int[26];
        for (int holes = 0; holes <= 25; holes++) {
            Arrays.fill(best[holes], far);
        }
        if (now.land[from] != 3) {
            best[now.land[from] == 0 ? 1 : 0][from] = 0;
        }
        for (int round = 0; round < 30; round++) {
            for (int holes = 0; holes <= 25; holes++) {
                for (int a = 0; a < 25; a++) {
                    for (int b = 0; b < 25; b++) {
                        int more = holes + (now.land[b] == 0 ? 1 : 0);
                        if (near(a, b) && now.land[b] != 3 && more <= 25) {
                            best[more][b] = Math.min(best[more][b], best[holes][a] + 1);
                        }
                    }
                }
            }
        }
        for (int holes = 0; holes <= 25; holes++) {
            answers[holes] = best[holes][to] >= far ? NONE : best[holes][to];
        }
        return answers;
    }

    int whole(int from, int to, int what) {
        if (bad(from, 0, 24) || bad(to, 0, 24)) return UNKNOWN;
        if (bad(what, 0, 1)) return OUTSIDE;
        int[] steps = steps(from, to);
        for (int holes = 0; holes <= 25; holes++) {
            if (steps[holes] != NONE) {
                return what == 0 ? holes : steps[holes];
            }
        }
        return NONE;
    }

    int camphored(int cell, int what) {
        if (bad(cell, 0, 24)) return UNKNOWN;
        if (bad(what, 0, 1)) return OUTSIDE;
        int moths = 0;
        for (int[] at : now.moths.values()) {
            moths |= 1 << 5 * at[0] + at[1];
        }
        for (int few = 0; few <= 4; few++) {
            int set = (1 << few) - 1;
            while (set < 1 << 25) {
                if ((set & moths) == 0 && (set >> cell & 1) == 0 && (flood(moths, set) >> cell & 1) == 0) {
                    return what == 0 ? few : set;
                }
                if (set == 0) break;
                int low = set & -set;
                int high = set + low;
                set = high | ((set ^ high) / low >> 2);
            }
        }
        return NONE;
    }

    private static int flood(int from, int barred) {
        int reached = from;
        int[] queue = new int[25];
        int end = 0;
        for (int cell = 0; cell < 25; cell++) {
            if ((from >> cell & 1) != 0) queue[end++] = cell;
        }
        for (int i = 0; i < end; i++) {
            int row = queue[i] / 5;
            int column = queue[i] % 5;
            int[] next = {row > 0 ? queue[i] - 5 : -1, column < 4 ? queue[i] + 1 : -1,
                row < 4 ? queue[i] + 5 : -1, column > 0 ? queue[i] - 1 : -1};
            for (int to : next) {
                if (to >= 0 && ((reached | barred) >> to & 1) == 0) {
                    reached |= 1 << to;
                    queue[end++] = to;
                }
            }
        }
        return reached;
    }

    int darned(int what) {
        if (bad(what, 0, 1)) return OUTSIDE;
        List<Integer> holes = new ArrayList<>();
        for (int cell = 0; cell < 25; cell++) {
            if (now.land[cell] == 0) holes.add(cell);
        }
        if (holes.size() > 9) return STATE;
        int all = (int) Math.pow(3, holes.size());
        int ways = 0;
        int first = NONE;
        for (int code = 0; code < all; code++) {
            int[] colours = new int[holes.size()];
            int rest = code;
            for (int i = colours.length - 1; i >= 0; i--) {
                colours[i] = 1 + rest % 3;
                rest /= 3;
            }
            if (fits(holes, colours)) {
                if (ways++ == 0) {
                    StringBuilder digits = new StringBuilder("0");
                    for (int colour : colours) digits.append(colour);
                    first = Integer.parseInt(digits.toString());
                }
            }
        }
        return what == 0 ? ways : first;
    }

    private boolean fits(List<Integer> holes, int[] colours) {
        for (int i = 0; i < colours.length; i++) {
            for (int j = 0; j < i; j++) {
                if (near(holes.get(i), holes.get(j)) && colours[i] == colours[j]) return false;
            }
            for (int cell = 0; cell < 25; cell++) {
                if (colours[i] == 2 && now.land[cell] == 4 && near(holes.get(i), cell)) return false;
            }
        }
        return true;
    }

    int sheet(int lands, int what) {
        if (bad(lands, 0, 9999) || !String.format("%04d", lands).matches("[0-5]{4}") || bad(what, 0, 1)) return OUTSIDE;
        List<Integer> found = new ArrayList<>();
        for (int row = 0; row < 4; row++) {
            for (int column = 0; column < 4; column++) {
                int cell = 5 * row + column;
                String here = "" + now.land[cell] + now.land[cell + 1] + now.land[cell + 5] + now.land[cell + 6];
                if (here.equals(String.format("%04d", lands))) found.add(cell);
            }
        }
        if (what == 0) return found.size();
        return found.isEmpty() ? NONE : found.get(0);
    }

    int seen(int night, int cell) {
        if (bad(cell, 0, 24)) return UNKNOWN;
        if (bad(night, 0, 40)) return OUTSIDE;
        if (now.sights.size() == 8) return FULL;
        now.sights.add(new int[] {night, cell});
        return now.sights.size();
    }

    int forget() {
        int were = now.sights.size();
        now.sights = new ArrayList<>();
        return were;
    }

    private static int cellBehind(int start, int nights) {
        int[] at = {start / 10 / 5, start / 10 % 5, start % 10};
        for (int i = 0; i < nights; i++) {
            step(at, new int[25]);
        }
        return 5 * at[0] + at[1];
    }

    private List<Integer> starts() {
        List<Integer> starts = new ArrayList<>();
        for (int start = 0; start < 250; start++) {
            int one = start;
            if (start % 10 < 4 && now.sights.stream().allMatch(s -> cellBehind(one, s[0]) == s[1])) {
                starts.add(start);
            }
        }
        return starts;
    }

    int began(int i) {
        List<Integer> starts = starts();
        if (i == -1) return starts.size();
        return i >= 0 && i < starts.size() ? starts.get(i) : NONE;
    }

    int ask(int what) {
        if (bad(what, 0, 1)) return OUTSIDE;
        List<Integer> starts = starts();
        if (starts.isEmpty()) return NONE;
        int bestNight = -1;
        int best = Integer.MAX_VALUE;
        for (int night = 40; night >= 0; night--) {
            int[] left = new int[25];
            for (int start : starts) left[cellBehind(start, night)]++;
            int most = Arrays.stream(left).max().getAsInt();
            if (most <= best) {
                best = most;
                bestNight = night;
            }
        }
        return what == 0 ? bestNight : best;
    }

    int folds(int n, int what) {
        if (bad(n, 0, 60) || bad(what, 0, 1)) return OUTSIDE;
        int[] worth = new int[61];
        for (int inches = 3; inches <= n; inches++) {
            boolean[] had = new boolean[64];
            for (int part = 1; 2 * part < inches; part++) had[worth[part] ^ worth[inches - part]] = true;
            while (had[worth[inches]]) worth[inches]++;
        }
        if (what == 0) return worth[n] == 0 ? 0 : 1;
        for (int part = 1; 2 * part < n; part++) {
            if (worth[part] == worth[n - part]) return part;
        }
        return NONE;
    }

    long coffee(int m, int p, int a, int b, int n, int q, int part) {
        if (bad(m, 0, 9) || bad(p, 0, m) || bad(a, 0, 10) || bad(b, 0, 10) || (long) a + b > 10
            || bad(n, 0, 16) || bad(q, 0, m) || bad(part, 0, 1)) {
            return -1000000000000000000L + OUTSIDE;
        }
        BigInteger[][] ways = new BigInteger[n + 1][m + 1];
        for (int i = 0; i <= m; i++) ways[0][i] = i == q ? BigInteger.ONE : BigInteger.ZERO;
        for (int k = 1; k <= n; k++) {
            for (int i = 0; i <= m; i++) {
                BigInteger east = ways[k - 1][i == m ? m : i + 1].multiply(BigInteger.valueOf(a));
                BigInteger west = ways[k - 1][i == 0 ? 0 : i - 1].multiply(BigInteger.valueOf(b));
                ways[k][i] = east.add(west).add(ways[k - 1][i].multiply(BigInteger.valueOf(10 - a - b)));
            }
        }
        BigInteger all = BigInteger.TEN.pow(n);
        BigInteger common = ways[n][p].gcd(all);
        return (part == 0 ? ways[n][p] : all).divide(common).longValueExact();
    }

    int year(int seed, int m, int what) {
        if (bad(seed, 0, 9999) || bad(m, 1, 99) || bad(what, 0, 2)) return OUTSIDE;
        World world = now.copy();
        long x = seed;
        for (int i = 0; i < m; i++) {
            x = (75 * x + 74) % 65537;
            int y = (int) (x >> 3);
            char cell = (char) ('a' + y % 25);
            switch ((int) (x & 7)) {
                case 0 -> world.act("" + "ABCD".charAt(y % 4) + "nesw".charAt(y / 4 % 4));
                case 1 -> world.act("+" + cell);
                case 2, 3 -> world.act("%" + cell + "123".charAt(y / 25 % 3));
                default -> world.act(".");
            }
        }
        return what == 0 ? world.count(0) : what == 1 ? world.threads() : world.count(4);
    }

    int image(int n) {
        if (bad(n, 0, 1)) return OUTSIDE;
        images[n] = now.copy();
        return 1;
    }

    int restore(int n) {
        if (bad(n, 0, 1)) return OUTSIDE;
        if (images[n] == null) return STATE;
        now = images[n].copy();
        return 1;
    }

    int told(int what) {
        if (what == 0) return pad.length();
        if (what == 1) return now.moths.keySet().stream().mapToInt(moth -> 1 << moth).sum();
        if (what == 2) return now.night;
        if (what == 3) return now.count(0);
        if (what == 4) return now.sights.size();
        if (what >= 11 && what <= 13) return now.thread[what - 10];
        if (what >= 20 && what <= 23 && now.moths.containsKey(what - 20)) {
            int[] at = now.moths.get(what - 20);
            return 5 * at[0] + at[1];
        }
        if (what >= 30 && what <= 33 && now.moths.containsKey(what - 30)) return now.moths.get(what - 30)[2];
        if (what >= 100 && what <= 124) return now.land[what - 100];
        if (what >= 200 && what <= 224) return now.camphor[what - 200];
        return OUTSIDE;
    }
}
