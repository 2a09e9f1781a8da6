import java.util.Arrays;

/**
 * Every call with every choice of numbers at and beyond all bounds of the document, each answer of EatenMaps against
 * that of Naive: whatever the numbers are, nothing is thrown, and the first refusal that fits is told.
 */
public final class EdgesTest {
    private static final int CALLS = 512;
    private static final int[] MANY = {Integer.MIN_VALUE, Integer.MIN_VALUE + 1, -7, -6, -5, -4, -3, -2, -1, 0, 1, 2, 3,
        4, 5, 6, 8, 9, 10, 11, 13, 14, 16, 17, 19, 20, 23, 24, 25, 29, 30, 32, 33, 34, 40, 41, 60, 61, 98, 99, 100, 101,
        124, 125, 126, 127, 199, 200, 224, 225, 255, 256, 5555, 5556, 9999, 10000, Integer.MAX_VALUE - 1,
        Integer.MAX_VALUE};
    private static final int[] SOME = {Integer.MIN_VALUE, -1, 0, 1, 2, 3, 4, 9, 24, 25, 98, 99, 100, 9999, 10000,
        Integer.MAX_VALUE};
    private static final int[] FEW = {Integer.MIN_VALUE, -1, 0, 1, 5, 9, 10, 11, 16, 17, Integer.MAX_VALUE};

    private final Due due = new Due();
    private EatenMaps maps;
    private Naive naive;
    private int calls = CALLS;

    public static void main(String[] args) {
        EdgesTest test = new EdgesTest();
        for (String call : new String[] {"wipe", "fault", "done", "forget"}) {
            test.tuples(call, new int[0], 0, MANY);
        }
        for (String call : new String[] {"say", "judge", "then", "darned", "began", "ask", "image", "restore", "told"}) {
            test.tuples(call, new int[1], 0, MANY);
        }
        for (String call : new String[] {"land", "camphor", "spool", "behind", "flies", "road", "camphored", "sheet",
            "seen", "folds"}) {
            test.tuples(call, new int[2], 0, call.equals("camphored") ? SOME : MANY);
        }
        for (String call : new String[] {"moth", "whole", "year"}) {
            test.tuples(call, new int[3], 0, SOME);
        }
        test.coffees();
        test.due.end();
    }

    /** All choices of numbers for a call, from one place on. */
    private void tuples(String call, int[] v, int place, int[] numbers) {
        if (place == v.length) {
            both(call, v);
            return;
        }
        for (int number : numbers) {
            v[place] = number;
            tuples(call, v, place + 1, numbers);
        }
    }

    /** Seven numbers are too many for all choices: any three of them stray, the others are as told. */
    private void coffees() {
        int[] told = {9, 4, 3, 2, 5, 6, 0};
        for (int i = 0; i < 7; i++) {
            for (int j = i + 1; j < 7; j++) {
                for (int k = j + 1; k < 7; k++) {
                    for (int code = 0; code < FEW.length * FEW.length * FEW.length; code++) {
                        int[] v = told.clone();
                        v[i] = FEW[code % FEW.length];
                        v[j] = FEW[code / FEW.length % FEW.length];
                        v[k] = FEW[code / FEW.length / FEW.length];
                        both("coffee", v);
                    }
                }
            }
        }
    }

    private void both(String call, int... v) {
        if (calls >= CALLS) {
            begin();
        }
        calls++;
        due.is(call + Arrays.toString(v), ModelTest.answer(naive, call, v), ModelTest.answer(maps, call, v));
    }

    /** New objects, which have some of everything. */
    private void begin() {
        maps = new EatenMaps();
        naive = new Naive();
        calls = 0;
        for (int[] cell : new int[][] {{1, 0}, {7, 4}, {8, 0}, {12, 3}, {18, 5}, {24, 0}}) {
            both("land", cell);
        }
        both("camphor", 23, 2);
        both("moth", 0, 0, 1);
        both("moth", 3, 22, 1);
        both("seen", 0, 0);
        for (char sign : "As.+c.%y3".toCharArray()) {
            both("say", sign);
        }
    }
}
