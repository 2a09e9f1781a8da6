/** Promises 1 to 8: the map, moths, the pad. */
public final class MapTest {
    private static final int[] NO_CELLS = {-1, 25, Integer.MIN_VALUE, Integer.MAX_VALUE};

    private final Due due = new Due();

    public static void main(String[] args) {
        MapTest test = new MapTest();
        test.newObject();
        test.constants();
        test.land();
        test.camphor();
        test.moth();
        test.spool();
        test.say();
        test.wipe();
        test.fault();
        test.due.end();
    }

    private void newObject() {
        due.of("promise 1");
        EatenMaps maps = new EatenMaps();
        for (int what = 0; what <= 4; what++) {
            due.is("told(" + what + ")", 0, maps.told(what));
        }
        for (int thread = 1; thread <= 3; thread++) {
            due.is("told(thread)", 9, maps.told(10 + thread));
        }
        for (int moth = 0; moth < 4; moth++) {
            due.is("told(moth's cell)", -2, maps.told(20 + moth));
            due.is("told(moth's heading)", -2, maps.told(30 + moth));
        }
        for (int cell = 0; cell < 25; cell++) {
            due.is("told(land)", 1, maps.told(100 + cell));
            due.is("told(camphor)", 0, maps.told(200 + cell));
        }
        due.is("fault()", -6, maps.fault());
        due.is("restore(0)", -3, maps.restore(0));
        due.is("restore(1)", -3, maps.restore(1));
        due.is("began(-1)", 100, maps.began(-1));
        EatenMaps other = new EatenMaps();
        maps.land(3, 0);
        due.is("told(103) of another object", 1, other.told(103));
    }

    private void constants() {
        due.of("the face");
        due.is("NONE", -6, EatenMaps.NONE);
        due.is("UNKNOWN", -1, EatenMaps.UNKNOWN);
        due.is("OUTSIDE", -2, EatenMaps.OUTSIDE);
        due.is("STATE", -3, EatenMaps.STATE);
        due.is("FULL", -4, EatenMaps.FULL);
        due.is("NO", -5, EatenMaps.NO);
        due.is("LOST", -1000000000000000000L, EatenMaps.LOST);
    }

    private void land() {
        due.of("promise 2");
        EatenMaps maps = new EatenMaps();
        for (int cell = 0; cell < 25; cell++) {
            due.is("land(cell, 0)", 1, maps.land(cell, 0));
            for (int v = 1; v <= 5; v++) {
                due.is("land(cell, v)", v - 1, maps.land(cell, v));
                due.is("told(land)", v, maps.told(100 + cell));
            }
        }
        for (int cell : NO_CELLS) {
            due.is("land(no cell, 0)", -1, maps.land(cell, 0));
            due.is("land(no cell, 6)", -1, maps.land(cell, 6));
        }
        due.is("land(0, 6)", -2, maps.land(0, 6));
        due.is("land(0, -1)", -2, maps.land(0, -1));
        due.is("land(0, max)", -2, maps.land(0, Integer.MAX_VALUE));
        due.is("told(100)", 5, maps.told(100));
    }

    private void camphor() {
        due.of("promise 3");
        EatenMaps maps = new EatenMaps();
        for (int cell = 0; cell < 25; cell++) {
            due.is("camphor(cell, 9)", 0, maps.camphor(cell, 9));
            due.is("camphor(cell, 4)", 9, maps.camphor(cell, 4));
            due.is("told(camphor)", 4, maps.told(200 + cell));
            due.is("camphor(cell, 0)", 4, maps.camphor(cell, 0));
        }
        for (int cell : NO_CELLS) {
            due.is("camphor(no cell, 0)", -1, maps.camphor(cell, 0));
            due.is("camphor(no cell, 10)", -1, maps.camphor(cell, 10));
        }
        due.is("camphor(24, 10)", -2, maps.camphor(24, 10));
        due.is("camphor(24, -1)", -2, maps.camphor(24, -1));
        due.is("told(224)", 0, maps.told(224));
    }

    private void moth() {
        due.of("promise 4");
        EatenMaps maps = new EatenMaps();
        due.is("moth(2, 24, 3)", 1, maps.moth(2, 24, 3));
        due.is("told(1)", 4, maps.told(1));
        due.is("moth(2, 7, 0), anew", 1, maps.moth(2, 7, 0));
        due.is("told(22)", 7, maps.told(22));
        due.is("told(32)", 0, maps.told(32));
        due.is("told(107): nothing is eaten by being there", 1, maps.told(107));
        due.is("moth(0, 7, 1): two in one cell", 2, maps.moth(0, 7, 1));
        due.is("moth(3, 0, 2)", 3, maps.moth(3, 0, 2));
        due.is("moth(1, 0, 2)", 4, maps.moth(1, 0, 2));
        due.is("told(1)", 15, maps.told(1));
        due.is("moth(4, 0, 0)", -1, maps.moth(4, 0, 0));
        due.is("moth(-1, 0, 0)", -1, maps.moth(-1, 0, 0));
        due.is("moth(4, 0, 4)", -1, maps.moth(4, 0, 4));
        for (int cell : NO_CELLS) {
            due.is("moth(0, no cell, 0)", -1, maps.moth(0, cell, 0));
            due.is("moth(0, no cell, 9)", -1, maps.moth(0, cell, 9));
        }
        due.is("moth(0, 0, 4)", -2, maps.moth(0, 0, 4));
        due.is("moth(0, 0, -1)", -2, maps.moth(0, 0, -1));
        due.is("told(20)", 7, maps.told(20));
        EatenMaps fresh = new EatenMaps();
        due.is("moth(0, 0, 4)", -2, fresh.moth(0, 0, 4));
        due.is("told(1): refused, none is there", 0, fresh.told(1));
    }

    private void spool() {
        due.of("promise 5");
        EatenMaps maps = new EatenMaps();
        for (int thread = 1; thread <= 3; thread++) {
            due.is("spool(thread, 99)", 9, maps.spool(thread, 99));
            due.is("spool(thread, 0)", 99, maps.spool(thread, 0));
            due.is("spool(thread, 40 + thread)", 0, maps.spool(thread, 40 + thread));
        }
        for (int thread = 1; thread <= 3; thread++) {
            due.is("told(thread)", 40 + thread, maps.told(10 + thread));
        }
        due.is("spool(0, 1)", -1, maps.spool(0, 1));
        due.is("spool(4, 1)", -1, maps.spool(4, 1));
        due.is("spool(4, 100)", -1, maps.spool(4, 100));
        due.is("spool(3, 100)", -2, maps.spool(3, 100));
        due.is("spool(3, -1)", -2, maps.spool(3, -1));
        due.is("told(13)", 43, maps.told(13));
    }

    private void say() {
        due.of("promise 6");
        EatenMaps maps = new EatenMaps();
        due.is("say(32)", -2, maps.say(32));
        due.is("say(127)", -2, maps.say(127));
        due.is("say(-1)", -2, maps.say(-1));
        due.is("say(33)", 1, maps.say(33));
        due.is("say(126)", 2, maps.say(126));
        for (int n = 3; n <= 60; n++) {
            due.is("say('.')", n, maps.say('.'));
        }
        due.is("say('.'), the 61st", -4, maps.say('.'));
        due.is("say(32), the 61st", -2, maps.say(32));
        due.is("told(0)", 60, maps.told(0));
    }

    private void wipe() {
        due.of("promise 7");
        EatenMaps maps = new EatenMaps();
        due.is("wipe()", 0, maps.wipe());
        Due.write(maps, "x.Q");
        due.is("wipe()", 3, maps.wipe());
        due.is("told(0)", 0, maps.told(0));
        due.is("fault()", -6, maps.fault());
        due.is("wipe()", 0, maps.wipe());
        due.is("say('A')", 1, maps.say('A'));
    }

    private void fault() {
        due.of("promise 8");
        isFault("", -6);
        for (String whole : new String[] {".", "An", "Be", "Cs", "Dw", "A!", "+a", "+y", "%a1", "%y3", "%m2"}) {
            isFault(whole, -6);
            isFault(whole + whole, -6);
            isFault("." + whole + "?", whole.length() + 1);
        }
        for (String open : new String[] {"A", "D", "+", "%", "%a", "%y", "..A", "An+", "+b%c"}) {
            isFault(open, open.length());
        }
        for (String first : new String[] {"E", "a", "n", "!", "1", "@", "/", "~", "#"}) {
            isFault(first, 0);
            isFault(first + ".", 0);
            isFault("+c" + first, 2);
        }
        isFault("AA", 1);
        isFault("AN", 1);
        isFault("Ax", 1);
        isFault("A.", 1);
        isFault("+z", 1);
        isFault("+`", 1);
        isFault("+A", 1);
        isFault("%z1", 1);
        isFault("%11", 1);
        isFault("%a0", 2);
        isFault("%a4", 2);
        isFault("%aa", 2);
        isFault("An+a%b1.?A", 8);
        isFault("..An+a.%c3B!+zE", 13);
        isFault(".".repeat(60), -6);
        isFault(".".repeat(59) + "A", 60);
        isFault(".".repeat(59) + "a", 59);
    }

    private void isFault(String text, int want) {
        EatenMaps maps = new EatenMaps();
        Due.write(maps, text);
        due.is("fault() of " + text, want, maps.fault());
        due.is("judge(0) of " + text, want == -6 ? 0 : -5, maps.judge(0) == -5 ? -5 : 0);
        due.is("told(0) of " + text, text.length(), maps.told(0));
    }
}
