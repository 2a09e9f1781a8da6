/**
 * The boundary cases of part 3 of the document and of promises 15 to 18, a method for each sentence that names one:
 * ends that are holes or water, no moth and all, no hole, nine, ten, the map's edges.
 */
public final class RoadsBoundsTest {
    private static final int NONE = -6, UNKNOWN = -1, OUTSIDE = -2, STATE = -3;

    private final Due due = new Due();

    public static void main(String[] args) {
        RoadsBoundsTest test = new RoadsBoundsTest();
        test.asThingsAreNow();
        test.wholeCells();
        test.wholeWhat();
        test.wholeRefused();
        test.wholeToItself();
        test.wholeBothEnds();
        test.wholeAllHoles();
        test.wholeMostHoles();
        test.wholeFewestHolesFirst();
        test.wholeNone();
        test.wholeThreads();
        test.camphoredCells();
        test.camphoredWhat();
        test.camphoredRefused();
        test.camphoredNoMoth();
        test.camphoredMothThere();
        test.camphoredMothBeside();
        test.camphoredAcrossTheEdge();
        test.camphoredFewAndMost();
        test.camphoredBits();
        test.camphoredNotWhereMothsAre();
        test.camphoredHeadings();
        test.camphoredCamphorOfNow();
        test.darnedWhat();
        test.darnedNoHole();
        test.darnedNineAndTen();
        test.darnedByATown();
        test.darnedByABoundary();
        test.darnedAlike();
        test.darnedThreads();
        test.questionsLeaveNothingBehind();
        test.sheetLands();
        test.sheetWhat();
        test.sheetAllAndNone();
        test.sheetNoughtsAhead();
        test.sheetAtTheEdges();
        test.due.end();
    }

    private void isWhole(EatenMaps maps, int from, int to, int holes, int steps) {
        due.is("whole(" + from + ", " + to + ", 0)", holes, maps.whole(from, to, 0));
        due.is("whole(" + from + ", " + to + ", 1)", steps, maps.whole(from, to, 1));
    }

    /** A text by which cell 1 would be eaten, a moth caught, a hole darned; or one with a fault. */
    private void asThingsAreNow() {
        due.of("3: as things are now, whatever is on the pad");
        for (String text : new String[] {"", "..%y3A!", "A", "Bn"}) {
            EatenMaps maps = Due.written(text);
            maps.moth(0, 0, 1);
            maps.land(24, 0);
            maps.land(5, 3);
            due.is("road(0, 2) by " + text, 2, maps.road(0, 2));
            due.is("road(23, 24) by " + text, NONE, maps.road(23, 24));
            isWhole(maps, 0, 2, 0, 2);
            isWhole(maps, 0, 24, 1, 8);
            isCamphored(maps, 12, 1, 5);
            isDarned(maps, 3, 1);
            isSheet(maps, 1131, 1, 0);
            isSheet(maps, 1110, 1, 18);
        }
    }

    private void wholeCells() {
        due.of("promise 15, UNKNOWN: both cells are 0 to 24");
        due.ends("whole(from, 12, 1)", v -> new EatenMaps().whole(v, 12, 1), 0, 4, 24, 4, UNKNOWN);
        due.ends("whole(12, to, 1)", v -> new EatenMaps().whole(12, v, 1), 0, 4, 24, 4, UNKNOWN);
    }

    private void wholeWhat() {
        due.of("promise 15, OUTSIDE: what is 0 or 1");
        due.ends("whole(0, 24, what)", v -> new EatenMaps().whole(0, 24, v), 0, 0, 1, 8, OUTSIDE);
        due.ends("whole(0, 24, what), no road", v -> Due.painted("3".repeat(25)).whole(0, 24, v),
            0, NONE, 1, NONE, OUTSIDE);
    }

    private void wholeRefused() {
        due.of("promise 15: UNKNOWN, OUTSIDE in this order");
        EatenMaps maps = Due.painted("3".repeat(25));
        due.is("whole(25, 0, 2)", UNKNOWN, maps.whole(25, 0, 2));
        due.is("whole(0, 25, 2)", UNKNOWN, maps.whole(0, 25, 2));
        due.is("whole(-1, -1, -1)", UNKNOWN, maps.whole(-1, -1, -1));
        due.is("whole(25, 0, 0), no road", UNKNOWN, maps.whole(25, 0, 0));
        due.is("whole(0, -1, 1), no road", UNKNOWN, maps.whole(0, -1, 1));
    }

    private void wholeToItself() {
        due.of("3, WHOLE: from a cell to itself, by each land");
        for (int cell : new int[] {0, 24}) {
            for (int land = 0; land <= 5; land++) {
                EatenMaps maps = new EatenMaps();
                maps.land(cell, land);
                isWhole(maps, cell, cell, land == 3 ? NONE : land == 0 ? 1 : 0, land == 3 ? NONE : 0);
            }
        }
    }

    private void wholeBothEnds() {
        due.of("3, WHOLE: both ends too; neither may be water");
        EatenMaps maps = new EatenMaps();
        maps.land(0, 0);
        isWhole(maps, 0, 1, 1, 1);
        isWhole(maps, 1, 0, 1, 1);
        maps.land(1, 0);
        isWhole(maps, 0, 1, 2, 1);
        maps.land(1, 3);
        isWhole(maps, 0, 1, NONE, NONE);
        isWhole(maps, 1, 0, NONE, NONE);
        isWhole(maps, 1, 2, NONE, NONE);
        isWhole(maps, 2, 1, NONE, NONE);
        isWhole(maps, 0, 2, 1, 4);
    }

    private void wholeAllHoles() {
        due.of("3, WHOLE: all cells are holes");
        EatenMaps maps = Due.painted("0".repeat(25));
        isWhole(maps, 0, 24, 9, 8);
        isWhole(maps, 20, 4, 9, 8);
        isWhole(maps, 12, 12, 1, 0);
        isWhole(maps, 4, 5, 6, 5);
    }

    private void wholeMostHoles() {
        due.of("3, WHOLE: the longest way of holes");
        isWhole(Due.painted("00000" + "33330" + "00000" + "03333" + "00000"), 0, 24, 17, 16);
        isWhole(Due.painted("10001" + "33331" + "10001" + "13333" + "10001"), 0, 24, 9, 16);
    }

    private void wholeFewestHolesFirst() {
        due.of("3, WHOLE: the fewest holes; the fewest steps by so few");
        isWhole(Due.painted("11111" + "33331" + "11111" + "13333" + "11111"), 0, 24, 0, 16);
        isWhole(Due.painted("11111" + "03331" + "11111" + "13330" + "11111"), 0, 24, 0, 16);
        isWhole(Due.painted("11101" + "03331" + "11111" + "13330" + "11111"), 0, 24, 1, 8);
        isWhole(Due.painted("10111" + "00301" + "11111" + "11111" + "11111"), 0, 10, 1, 2);
    }

    private void wholeNone() {
        due.of("promise 15, NONE");
        isWhole(Due.painted("3".repeat(25)), 0, 24, NONE, NONE);
        isWhole(Due.painted("3".repeat(25)), 12, 12, NONE, NONE);
        isWhole(Due.painted("13111" + "31111" + "1".repeat(15)), 0, 24, NONE, NONE);
        isWhole(Due.painted("03000" + "30000" + "0".repeat(15)), 24, 0, NONE, NONE);
        isWhole(Due.painted("00033" + "33333" + "3".repeat(15)), 0, 3, NONE, NONE);
    }

    private void wholeThreads() {
        due.of("3, WHOLE: how many threads there are is not asked about");
        EatenMaps maps = Due.painted("0".repeat(25));
        maps.spool(3, 0);
        isWhole(maps, 0, 24, 9, 8);
        maps.spool(3, 99);
        isWhole(maps, 0, 24, 9, 8);
    }

    private static EatenMaps withMoths(int... cells) {
        EatenMaps maps = new EatenMaps();
        for (int moth = 0; moth < cells.length; moth++) {
            maps.moth(moth, cells[moth], moth);
        }
        return maps;
    }

    private void isCamphored(EatenMaps maps, int cell, int... cells) {
        int bits = 0;
        for (int one : cells) {
            bits |= 1 << one;
        }
        due.is("camphored(" + cell + ", 0)", cells.length, maps.camphored(cell, 0));
        due.is("camphored(" + cell + ", 1)", bits, maps.camphored(cell, 1));
    }

    private void isNotCamphored(EatenMaps maps, int cell) {
        due.is("camphored(" + cell + ", 0)", NONE, maps.camphored(cell, 0));
        due.is("camphored(" + cell + ", 1)", NONE, maps.camphored(cell, 1));
    }

    private void camphoredCells() {
        due.of("promise 16, UNKNOWN: cells are 0 to 24");
        due.ends("camphored(cell, 0)", v -> withMoths(12).camphored(v, 0), 0, 2, 24, 2, UNKNOWN);
        due.ends("camphored(cell, 1)", v -> withMoths(12).camphored(v, 1), 0, 34, 24, 8912896, UNKNOWN);
    }

    private void camphoredWhat() {
        due.of("promise 16, OUTSIDE: what is 0 or 1");
        due.ends("camphored(0, what)", v -> withMoths(12).camphored(0, v), 0, 2, 1, 34, OUTSIDE);
        due.ends("camphored(12, what), NONE", v -> withMoths(12).camphored(12, v), 0, NONE, 1, NONE, OUTSIDE);
    }

    private void camphoredRefused() {
        due.of("promise 16: UNKNOWN, OUTSIDE in this order");
        due.is("camphored(25, 2)", UNKNOWN, new EatenMaps().camphored(25, 2));
        due.is("camphored(-1, -1)", UNKNOWN, withMoths(0).camphored(-1, -1));
    }

    private void camphoredNoMoth() {
        due.of("3, CAMPHORED: no moth is there, no camphor is wanted");
        for (int cell = 0; cell < 25; cell++) {
            isCamphored(new EatenMaps(), cell);
        }
        EatenMaps maps = withMoths(12, 13);
        Due.doNights(maps, "A!B!");
        isCamphored(maps, 12);
        isCamphored(maps, 7);
    }

    private void camphoredMothThere() {
        due.of("promise 16, NONE: a moth is in that cell");
        for (int cell = 0; cell < 25; cell++) {
            isNotCamphored(withMoths(cell), cell);
        }
    }

    private void camphoredMothBeside() {
        due.of("promise 16, NONE: a moth is beside it; not if it is aslant or two cells away");
        int[][] beside = {{0, 1, 5}, {4, 3, 9}, {20, 15, 21}, {24, 19, 23}, {12, 7, 11, 13, 17}};
        for (int[] cells : beside) {
            for (int cell = 0; cell < 25; cell++) {
                boolean near = cell == cells[0];
                for (int i = 1; i < cells.length; i++) {
                    near |= cell == cells[i];
                }
                int got = withMoths(cell).camphored(cells[0], 0);
                due.is("camphored(" + cells[0] + ", 0) is NONE, a moth in " + cell, near ? 1 : 0, got == NONE ? 1 : 0);
            }
        }
        isNotCamphored(withMoths(0, 24, 20, 13), 12);
        isCamphored(withMoths(6), 12, 1, 5, 7, 11);
    }

    private void camphoredAcrossTheEdge() {
        due.of("3, CAMPHORED: the map does not come round");
        isCamphored(withMoths(5), 4, 3, 9);
        isCamphored(withMoths(4), 5, 3, 9);
        isCamphored(withMoths(0), 20, 1, 5);
        isCamphored(withMoths(0), 4, 1, 5);
        isCamphored(withMoths(24), 0, 1, 5);
    }

    private void camphoredFewAndMost() {
        due.of("3, CAMPHORED: how many, 0 to 4");
        isCamphored(new EatenMaps(), 12);
        isCamphored(withMoths(24), 12, 19, 23);
        isCamphored(withMoths(10), 14, 5, 11, 15);
        isCamphored(withMoths(2, 10, 14, 22), 12, 7, 11, 13, 17);
        isCamphored(withMoths(0, 4, 20, 24), 12, 7, 11, 13, 17);
    }

    private void camphoredBits() {
        due.of("3, CAMPHORED: which, least as bits, cells 0 to 24");
        isCamphored(withMoths(12), 1, 0, 2, 6);
        isCamphored(withMoths(19, 12), 23, 18, 22, 24);
        isCamphored(withMoths(12), 23, 14, 18, 22);
        isCamphored(withMoths(24), 4, 3, 9);
        isCamphored(withMoths(24), 20, 15, 21);
    }

    private void camphoredNotWhereMothsAre() {
        due.of("3, CAMPHORED: other cells than that one and than those where moths are");
        isCamphored(withMoths(0), 24, 1, 5);
        isCamphored(withMoths(0, 1), 24, 19, 23);
        isCamphored(withMoths(0, 1, 5), 24, 19, 23);
        isCamphored(withMoths(0, 0, 0, 0), 24, 1, 5);
        isCamphored(withMoths(24, 18), 14, 9, 13, 19);
    }

    private void camphoredHeadings() {
        due.of("3, CAMPHORED: wherever it heads");
        for (int heads = 0; heads < 4; heads++) {
            EatenMaps maps = new EatenMaps();
            maps.moth(2, 0, heads);
            isCamphored(maps, 12, 1, 5);
            isNotCamphored(maps, 1);
            isNotCamphored(maps, 5);
        }
    }

    private void camphoredCamphorOfNow() {
        due.of("3, CAMPHORED: camphor of now does not matter");
        EatenMaps maps = withMoths(0, 24);
        for (int cell = 0; cell < 25; cell++) {
            maps.camphor(cell, 9);
            maps.land(cell, 3 * (cell % 2));
        }
        isCamphored(maps, 12, 7, 11, 13, 17);
        isNotCamphored(maps, 1);
        due.is("told(207): none is laid, none is taken", 9, maps.told(207));
        due.is("told(201)", 9, maps.told(201));
    }

    private void isDarned(EatenMaps maps, int ways, int first) {
        due.is("darned(0)", ways, maps.darned(0));
        due.is("darned(1)", first, maps.darned(1));
    }

    private void darnedWhat() {
        due.of("promise 17: OUTSIDE, STATE in this order; what is 0 or 1");
        due.ends("darned(what)", v -> new EatenMaps().darned(v), 0, 1, 1, 0, OUTSIDE);
        due.ends("darned(what), 25 holes", v -> Due.painted("0".repeat(25)).darned(v), 0, STATE, 1, STATE, OUTSIDE);
    }

    private void darnedNoHole() {
        due.of("3, DARNED: 0, there are no holes");
        for (int land = 1; land <= 5; land++) {
            isDarned(Due.painted(("" + land).repeat(25)), 1, 0);
        }
    }

    private void darnedNineAndTen() {
        due.of("promise 17, STATE: more than 9 holes");
        isDarned(Due.painted("00011" + "00011" + "00011" + "11111" + "11111"), 246, 121212121);
        isDarned(Due.painted("01010" + "10101" + "01010" + "11111" + "10111"), 19683, 111111111);
        isDarned(Due.painted("11111" + "11111" + "11111" + "10000" + "00000"), 324, 121212121);
        isDarned(Due.painted("11111" + "11111" + "11111" + "00000" + "00000"), STATE, STATE);
        isDarned(Due.painted("01010" + "10101" + "01010" + "11111" + "10110"), STATE, STATE);
        isDarned(Due.painted("0".repeat(25)), STATE, STATE);
        EatenMaps maps = Due.painted("11111" + "11111" + "11111" + "00000" + "00000");
        maps.land(15, 1);
        isDarned(maps, 324, 121212121);
    }

    private void darnedByATown() {
        due.of("3, DARNED: none blue beside a town");
        for (int cell = 0; cell < 25; cell++) {
            EatenMaps maps = new EatenMaps();
            maps.land(12, 0);
            boolean beside = cell == 7 || cell == 11 || cell == 13 || cell == 17;
            if (cell != 12) {
                maps.land(cell, 4);
                isDarned(maps, beside ? 2 : 3, 1);
            }
        }
        isDarned(Due.painted("44444" + "44444" + "00000" + "44444" + "44444"), 2, 13131);
        isDarned(Due.painted("04040" + "40404" + "04040" + "44444" + "40444"), 512, 111111111);
    }

    private void darnedByABoundary() {
        due.of("1, DARNED: the map does not come round");
        isDarned(Due.painted("11114" + "01111" + "1".repeat(15)), 3, 1);
        isDarned(Due.painted("11110" + "01111" + "1".repeat(15)), 9, 11);
        isDarned(Due.painted("01110" + "11111" + "11111" + "11111" + "01110"), 81, 1111);
        isDarned(Due.painted("01114" + "11111" + "11111" + "11111" + "41114"), 3, 1);
    }

    private void darnedAlike() {
        due.of("3, DARNED: no two beside each other alike; others may be");
        isDarned(Due.painted("00111" + "1".repeat(20)), 6, 12);
        isDarned(Due.painted("01111" + "01111" + "1".repeat(15)), 6, 12);
        isDarned(Due.painted("01111" + "10111" + "1".repeat(15)), 9, 11);
        isDarned(Due.painted("01011" + "1".repeat(20)), 9, 11);
        isDarned(Due.painted("00111" + "00111" + "1".repeat(15)), 18, 1221);
        isDarned(Due.painted("03111" + "31111" + "1".repeat(15)), 3, 1);
        isDarned(Due.painted("02511" + "1".repeat(20)), 3, 1);
    }

    private void darnedThreads() {
        due.of("3, DARNED: however many threads there are");
        for (int many : new int[] {0, 99}) {
            EatenMaps maps = Due.painted("00011" + "00011" + "00011" + "11111" + "11111");
            for (int thread = 1; thread <= 3; thread++) {
                maps.spool(thread, many);
            }
            isDarned(maps, 246, 121212121);
        }
    }

    /** One object asked again and again while its map changes, against new ones that are asked once. */
    private void questionsLeaveNothingBehind() {
        due.of("3: what was asked before does not matter");
        String[] maps = {"0".repeat(9) + "1".repeat(16), "01010" + "10101" + "01010" + "11111" + "10111",
            "1".repeat(16) + "0".repeat(9), "1".repeat(25), "04140" + "40111" + "00111" + "11111" + "11100",
            "10111" + "00011" + "10111" + "11111" + "11111", "3".repeat(25), "01111" + "1".repeat(20)};
        EatenMaps asked = withMoths(0);
        for (int i = 0; i < maps.length; i++) {
            EatenMaps fresh = withMoths(3 * i);
            asked.moth(0, 3 * i, 0);
            Due.paint(fresh, maps[i]);
            Due.paint(asked, maps[i]);
            for (int what = 0; what <= 1; what++) {
                due.is("darned(" + what + ") of " + maps[i], fresh.darned(what), asked.darned(what));
                due.is("whole(0, 24, " + what + ") of " + maps[i], fresh.whole(0, 24, what), asked.whole(0, 24, what));
                due.is("camphored(24, " + what + ")", fresh.camphored(24, what), asked.camphored(24, what));
                due.is("camphored(2, " + what + ")", fresh.camphored(2, what), asked.camphored(2, what));
                due.is("sheet(1111, " + what + ") of " + maps[i], fresh.sheet(1111, what), asked.sheet(1111, what));
            }
        }
    }

    /** Each number from just below to just above: four digits, each 0 to 5. */
    private void sheetLands() {
        due.of("promise 18, OUTSIDE: four digits 0 to 5");
        due.ends("sheet(lands, 0)", v -> Due.painted("5".repeat(25)).sheet(v, 0), 0, 0, 5555, 16, OUTSIDE);
        EatenMaps maps = new EatenMaps();
        for (int lands = -1000; lands <= 12000; lands++) {
            if (lands % 500 == 0) {
                maps = new EatenMaps();
            }
            boolean taken = lands >= 0 && lands <= 5555;
            for (int rest = lands; rest > 0; rest /= 10) {
                taken &= rest % 10 <= 5;
            }
            int want = lands == 1111 ? 16 : taken ? 0 : OUTSIDE;
            due.is("sheet(" + lands + ", 0)", want, maps.sheet(lands, 0));
        }
    }

    private void sheetWhat() {
        due.of("promise 18, OUTSIDE: what is 0 or 1");
        due.ends("sheet(1111, what)", v -> new EatenMaps().sheet(1111, v), 0, 16, 1, 0, OUTSIDE);
        due.ends("sheet(2222, what)", v -> new EatenMaps().sheet(2222, v), 0, 0, 1, NONE, OUTSIDE);
        due.ends("sheet(6, what)", v -> new EatenMaps().sheet(6, v), 0, OUTSIDE, 1, OUTSIDE, OUTSIDE);
    }

    private void isSheet(EatenMaps maps, int lands, int count, int first) {
        due.is("sheet(" + lands + ", 0)", count, maps.sheet(lands, 0));
        due.is("sheet(" + lands + ", 1)", first, maps.sheet(lands, 1));
    }

    private void sheetAllAndNone() {
        due.of("3, SHEET: on how many cells, the first, NONE");
        for (int land = 0; land <= 5; land++) {
            EatenMaps maps = Due.painted(("" + land).repeat(25));
            for (int other = 0; other <= 5; other++) {
                isSheet(maps, 1111 * other, other == land ? 16 : 0, other == land ? 0 : NONE);
            }
        }
    }

    private void sheetNoughtsAhead() {
        due.of("promise 18: noughts ahead");
        String holes = "0".repeat(25);
        isSheet(Due.painted("5" + holes.substring(1)), 5000, 1, 0);
        isSheet(Due.painted("05" + holes.substring(2)), 500, 1, 0);
        isSheet(Due.painted("00000" + "5" + holes.substring(6)), 50, 1, 0);
        isSheet(Due.painted("00000" + "05" + holes.substring(7)), 5, 1, 0);
        isSheet(Due.painted(holes), 0, 16, 0);
    }

    private void sheetAtTheEdges() {
        due.of("3, SHEET: a cell has one to its east, and ones to the south of both");
        EatenMaps maps = new EatenMaps();
        maps.land(18, 2);
        maps.land(19, 3);
        maps.land(23, 4);
        maps.land(24, 5);
        isSheet(maps, 2345, 1, 18);
        for (int row = 0; row < 4; row++) {
            EatenMaps round = new EatenMaps();
            round.land(5 * row + 4, 2);
            round.land(5 * row + 5, 3);
            round.land(5 * row + 9, 4);
            if (row < 3) {
                round.land(5 * row + 10, 5);
            }
            isSheet(round, 2345, 0, NONE);
            isSheet(round, 2341, 0, NONE);
        }
        for (int column = 0; column < 4; column++) {
            EatenMaps round = new EatenMaps();
            round.land(20 + column, 2);
            round.land(21 + column, 3);
            round.land(column, 4);
            round.land(column + 1, 5);
            isSheet(round, 2345, 0, NONE);
        }
        isSheet(Due.painted("12121" + "21212" + "12121" + "21212" + "12121"), 2112, 8, 1);
        isSheet(Due.painted("12121" + "21212" + "12121" + "21212" + "12121"), 1221, 8, 0);
    }
}
