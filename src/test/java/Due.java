/** Counts answers that are not the ones that are due, and ends a test. */
final class Due {
    private int checks;
    private int wrong;
    private String promise = "";

    /** Names the promise that the next checks are about. */
    void of(String name) {
        promise = name;
    }

    void is(String call, long want, long got) {
        checks++;
        if (want != got) {
            wrong++;
            System.out.println(promise + ": " + call + " answered " + got + ", due is " + want);
        }
    }

    /** Prints the outcome; the exit code is 1 if an answer was wrong. */
    void end() {
        System.out.println(checks + " answers looked at, " + wrong + " wrong");
        if (wrong != 0 || checks == 0) {
            System.exit(1);
        }
    }

    /** Says each sign of a text behind what is on the pad. */
    static void write(EatenMaps maps, String text) {
        for (int i = 0; i < text.length(); i++) {
            maps.say(text.charAt(i));
        }
    }

    /** Wipes the pad and says a text. */
    static void rewrite(EatenMaps maps, String text) {
        maps.wipe();
        write(maps, text);
    }

    /** Does nights that can be. */
    static int doNights(EatenMaps maps, String text) {
        rewrite(maps, text);
        return maps.done();
    }

    /** A cell's number by its letter. */
    static int cell(char letter) {
        return letter - 'a';
    }
}
