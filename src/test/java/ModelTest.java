import java.lang.reflect.Method;
import java.util.Arrays;
import java.util.Random;

/** Runs of random calls on new objects: each answer of EatenMaps against that of Naive. */
public final class ModelTest {
    private static final int RUNS = 400, CALLS = 512;

    private final Due due = new Due();
    private final Random random = new Random(20261118L);
    private EatenMaps maps;
    private Naive naive;
    private int run;
    private int made;

    public static void main(String[] args) {
        ModelTest test = new ModelTest();
        for (test.run = 0; test.run < RUNS; test.run++) {
            test.due.of("run " + test.run);
            test.oneRun();
        }
        test.due.end();
    }

    private void oneRun() {
        maps = new EatenMaps();
        naive = new Naive();
        int holesInTen = random.nextInt(6);
        int moths = random.nextInt(5);
        made = 0;
        for (int cell = 0; cell < 25; cell++) {
            int v = random.nextInt(10) < holesInTen ? 0 : random.nextInt(6);
            both("land", cell, v);
        }
        for (int i = 0; i < moths; i++) {
            both("moth", random.nextInt(4), random.nextInt(25), random.nextInt(4));
        }
        while (made < CALLS) {
            int dice = random.nextInt(8);
            if (dice < 2) {
                text();
            } else if (dice < 5) {
                change();
            } else {
                question();
            }
        }
    }

    /** A number that is nearly always between two, and now and then just outside or far away. */
    private int number(int least, int most) {
        int dice = random.nextInt(60);
        if (dice == 0) return least - 1;
        if (dice == 1) return most + 1;
        if (dice == 2) return random.nextBoolean() ? random.nextInt() : Integer.MIN_VALUE + random.nextInt(300);
        return least + random.nextInt(most - least + 1);
    }

    private void text() {
        StringBuilder text = new StringBuilder();
        int acts = random.nextInt(random.nextInt(8) == 0 ? 30 : 9);
        for (int i = 0; i < acts; i++) {
            text.append(act());
        }
        if (random.nextInt(5) != 0) {
            both("wipe");
        }
        for (int i = 0; i < text.length(); i++) {
            both("say", random.nextInt(150) == 0 ? number(33, 126) : text.charAt(i));
        }
        both("fault");
        both("judge", 0);
        both("judge", 1);
        for (int what = 0; what <= 4; what++) {
            both("then", what);
        }
        both("behind", number(0, 24), number(0, 1));
        both("flies", number(0, 3), number(0, 1));
        if (random.nextBoolean()) {
            both("done");
        }
    }

    private String act() {
        char cell = (char) ('a' + random.nextInt(25));
        switch (random.nextInt(8)) {
            case 0:
                return "" + "ABCD".charAt(random.nextInt(4)) + "nesw".charAt(random.nextInt(4));
            case 1:
                return random.nextInt(4) == 0 ? "" + "ABCD".charAt(random.nextInt(4)) + "!" : ".";
            case 2:
                return "+" + cell;
            case 3:
                return "%" + aHole() + "123".charAt(random.nextInt(3));
            default:
                return ".";
        }
    }

    /** A hole of now as far as some tries find one: most acts of darning can be then. */
    private char aHole() {
        int cell = random.nextInt(25);
        for (int i = 0; i < 20 && naive.told(100 + cell) != 0; i++) {
            cell = random.nextInt(25);
        }
        return (char) ('a' + cell);
    }

    private void change() {
        switch (random.nextInt(10)) {
            case 0, 1 -> both("land", number(0, 24), number(0, 5));
            case 2 -> both("camphor", number(0, 24), number(0, 9));
            case 3 -> both("moth", number(0, 3), number(0, 24), number(0, 3));
            case 4 -> both("spool", number(1, 3), random.nextInt(3) == 0 ? 0 : number(0, 99));
            case 5 -> both("image", number(0, 1));
            case 6 -> seldom("restore", number(0, 1), "began", number(-1, 5));
            case 7 -> forgetSeldom();
            default -> sight();
        }
    }

    private void seldom(String call, int v, String other, int w) {
        if (random.nextInt(3) == 0) {
            both(call, v);
        } else {
            both(other, w);
        }
    }

    private void forgetSeldom() {
        if (random.nextInt(3) == 0) {
            both("forget");
        } else {
            both("told", number(0, 4));
        }
    }

    /** Most sights are of one moth's way, so that something fits. */
    private void sight() {
        if (random.nextInt(4) == 0) {
            both("seen", number(0, 40), number(0, 24));
        } else {
            both("seen", random.nextInt(6), random.nextInt(5));
        }
    }

    private void question() {
        switch (random.nextInt(12)) {
            case 0 -> both("road", number(0, 24), number(0, 24));
            case 1 -> both("whole", number(0, 24), number(0, 24), number(0, 1));
            case 2 -> dearQuestion();
            case 3 -> both("told", number(100, 124));
            case 4 -> both("sheet", fourLands(), number(0, 1));
            case 5 -> both("began", number(-1, 30));
            case 6 -> both("ask", number(0, 1));
            case 7 -> both("folds", number(0, 60), number(0, 1));
            case 8 -> coffee();
            case 9 -> both("year", number(0, 9999), number(1, 99), number(0, 2));
            case 10 -> both("told", number(200, 224));
            default -> both("told", number(0, 230));
        }
    }

    /** Naive tries all sets of cells, all ways to darn: that is not asked often. */
    private void dearQuestion() {
        switch (random.nextInt(4)) {
            case 0 -> both("camphored", number(0, 24), number(0, 1));
            case 1 -> both("darned", number(0, 1));
            default -> both("told", number(0, 40));
        }
    }

    /** Four lands of the map as it is, or any. */
    private int fourLands() {
        if (random.nextInt(3) == 0) return number(0, 5555);
        int cell = 5 * random.nextInt(4) + random.nextInt(4);
        return 1000 * naive.told(100 + cell) + 100 * naive.told(101 + cell) + 10 * naive.told(105 + cell)
            + naive.told(106 + cell);
    }

    private void coffee() {
        int m = number(0, 9);
        int most = Math.max(0, Math.min(9, m));
        int a = number(0, 10);
        int b = number(0, Math.max(0, Math.min(10, 10 - Math.max(0, a))));
        both("coffee", m, number(0, most), a, b, number(0, 16), number(0, most), number(0, 1));
    }

    /** One call on both; none behind the last one that is promised. */
    private void both(String call, int... v) {
        if (made >= CALLS) {
            return;
        }
        made++;
        due.is(call + Arrays.toString(v), answer(naive, call, v), answer(maps, call, v));
    }

    /** Both have methods of the same names; what one of them throws ends the test. */
    static long answer(Object target, String call, int[] v) {
        Object[] arguments = new Object[v.length];
        Class<?>[] types = new Class<?>[v.length];
        for (int i = 0; i < v.length; i++) {
            arguments[i] = v[i];
            types[i] = int.class;
        }
        try {
            Method method = target.getClass().getDeclaredMethod(call, types);
            return ((Number) method.invoke(target, arguments)).longValue();
        } catch (ReflectiveOperationException e) {
            throw new IllegalStateException(call + " " + Arrays.toString(v), e);
        }
    }
}
