import java.util.function.IntToLongFunction;

/** Counts answers that are not the ones that are due, and ends a test. */
final class Due {
    private int checks;
    private int wrong;
    private String promise = "";

    /** Names the promise that the next checks are about. */
    void of(String name) {
        promise = name;
    }

    void is(String call, long want, long got) {
        checks++;
        if (want != got) {
            wrong++;
            System.out.println(promise + ": " + call + " answered " + got + ", due is " + want);
        }
    }

    /**
     * Looks at both ends of what a call takes: the least and the greatest number with the answers that are due
     * there, the first numbers beyond them, and the farthest, all of which are refused.
     */
    void ends(String call, IntToLongFunction asked, int least, long atLeast, int most, long atMost, long refusal) {
        is(call + " with " + least, atLeast, asked.applyAsLong(least));
        is(call + " with " + most, atMost, asked.applyAsLong(most));
        for (int beyond : new int[] {least - 1, most + 1, Integer.MIN_VALUE, Integer.MAX_VALUE}) {
            is(call + " with " + beyond, refusal, asked.applyAsLong(beyond));
        }
    }

    /** Prints the outcome; the exit code is 1 if an answer was wrong. */
    void end() {
        System.out.println(checks + " answers looked at, " + wrong + " wrong");
        if (wrong != 0 || checks == 0) {
            System.exit(1);
        }
    }

    /** Says each sign of a text behind what is on the pad. */
    static void write(EatenMaps maps, String text) {
        for (int i = 0; i < text.length(); i++) {
            maps.say(text.charAt(i));
        }
    }

    /** Wipes the pad and says a text. */
    static void rewrite(EatenMaps maps, String text) {
        maps.wipe();
        write(maps, text);
    }

    /** Does nights that can be. */
    static int doNights(EatenMaps maps, String text) {
        rewrite(maps, text);
        return maps.done();
    }

    /** A new object with a text on its pad. */
    static EatenMaps written(String text) {
        EatenMaps maps = new EatenMaps();
        write(maps, text);
        return maps;
    }

    /** A new object in which it is some night, 99 at most, and nothing else has come to pass. */
    static EatenMaps atNight(int night) {
        EatenMaps maps = new EatenMaps();
        doNights(maps, ".".repeat(night / 2));
        doNights(maps, ".".repeat(night - night / 2));
        return maps;
    }

    /** Gives all 25 cells their lands, five rows of five digits. */
    static void paint(EatenMaps maps, String rows) {
        for (int cell = 0; cell < 25; cell++) {
            maps.land(cell, rows.charAt(cell) - '0');
        }
    }

    /** A new object whose cells have these lands. */
    static EatenMaps painted(String rows) {
        EatenMaps maps = new EatenMaps();
        paint(maps, rows);
        return maps;
    }
}
