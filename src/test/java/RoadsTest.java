/** Promises 15 to 18: whole roads, camphor for a harbour, darning, sheets. */
public final class RoadsTest {
    private final Due due = new Due();

    public static void main(String[] args) {
        RoadsTest test = new RoadsTest();
        test.wholeRoads();
        test.wholeEnds();
        test.wholeRefusals();
        test.camphoredCorners();
        test.camphoredNone();
        test.camphoredLeast();
        test.camphoredRefusals();
        test.darnedFew();
        test.darnedMany();
        test.sheets();
        test.sheetRefusals();
        test.due.end();
    }

    private void isWhole(EatenMaps maps, int from, int to, int holes, int steps) {
        due.is("whole(" + from + ", " + to + ", 0)", holes, maps.whole(from, to, 0));
        due.is("whole(" + from + ", " + to + ", 1)", steps, maps.whole(from, to, 1));
    }

    private void wholeRoads() {
        due.of("promise 15");
        EatenMaps maps = new EatenMaps();
        isWhole(maps, 0, 24, 0, 8);
        Due.paint(maps, "11111" + "00000" + "11111" + "33330" + "11111");
        isWhole(maps, 0, 20, 2, 12);
        isWhole(maps, 20, 0, 2, 12);
        isWhole(maps, 0, 10, 1, 2);
        isWhole(maps, 5, 9, 2, 6);
        Due.paint(maps, "11111" + "10001" + "10101" + "10001" + "11111");
        isWhole(maps, 2, 22, 0, 8);
        isWhole(maps, 2, 12, 1, 2);
        isWhole(maps, 0, 12, 1, 4);
        Due.paint(maps, "13111" + "13131" + "13131" + "13131" + "11131");
        isWhole(maps, 0, 24, 0, 16);
        maps.land(2, 3);
        isWhole(maps, 0, 24, -6, -6);
        due.is("told(102): nothing is darned", 3, maps.told(102));
        maps.land(2, 0);
        isWhole(maps, 0, 24, 1, 16);
        maps.spool(3, 0);
        isWhole(maps, 0, 24, 1, 16);
        due.is("told(102): nothing is darned", 0, maps.told(102));
    }

    private void wholeEnds() {
        due.of("promise 15, ends");
        EatenMaps maps = new EatenMaps();
        maps.land(0, 0);
        maps.land(24, 0);
        isWhole(maps, 0, 24, 2, 8);
        isWhole(maps, 0, 0, 1, 0);
        isWhole(maps, 12, 12, 0, 0);
        isWhole(maps, 0, 1, 1, 1);
        maps.land(0, 3);
        isWhole(maps, 0, 24, -6, -6);
        isWhole(maps, 24, 0, -6, -6);
        isWhole(maps, 0, 0, -6, -6);
        Due.paint(maps, "00000".repeat(5));
        isWhole(maps, 0, 24, 9, 8);
    }

    private void wholeRefusals() {
        due.of("promise 15, refused");
        EatenMaps maps = new EatenMaps();
        due.is("whole(25, 0, 0)", -1, maps.whole(25, 0, 0));
        due.is("whole(0, 25, 0)", -1, maps.whole(0, 25, 0));
        due.is("whole(-1, 0, 2)", -1, maps.whole(-1, 0, 2));
        due.is("whole(0, -1, 2)", -1, maps.whole(0, -1, 2));
        due.is("whole(0, 0, 2)", -2, maps.whole(0, 0, 2));
        due.is("whole(0, 0, -1)", -2, maps.whole(0, 0, -1));
    }

    private static int bits(int... cells) {
        int bits = 0;
        for (int cell : cells) {
            bits |= 1 << cell;
        }
        return bits;
    }

    private void isCamphored(EatenMaps maps, int cell, int... cells) {
        due.is("camphored(" + cell + ", 0)", cells.length, maps.camphored(cell, 0));
        due.is("camphored(" + cell + ", 1)", bits(cells), maps.camphored(cell, 1));
    }

    private void camphoredCorners() {
        due.of("promise 16");
        EatenMaps maps = new EatenMaps();
        isCamphored(maps, 12);
        maps.moth(0, 0, 1);
        isCamphored(maps, 24, 1, 5);
        isCamphored(maps, 12, 1, 5);
        maps.moth(1, 24, 1);
        isCamphored(maps, 12, 7, 11, 13, 17);
        isCamphored(maps, 4, 3, 9);
        maps.moth(2, 20, 1);
        isCamphored(maps, 4, 3, 9);
        isCamphored(maps, 2, 1, 3, 7);
        maps.moth(3, 20, 2);
        isCamphored(maps, 4, 3, 9);
        due.is("told(203): nothing is laid", 0, maps.told(203));
        maps.camphor(3, 9);
        isCamphored(maps, 4, 3, 9);
        maps.land(9, 0);
        isCamphored(maps, 4, 3, 9);
    }

    private void camphoredNone() {
        due.of("promise 16, NONE");
        EatenMaps maps = new EatenMaps();
        maps.moth(2, 12, 0);
        for (int cell : new int[] {12, 7, 11, 13, 17}) {
            due.is("camphored(" + cell + ", 0)", -6, maps.camphored(cell, 0));
            due.is("camphored(" + cell + ", 1)", -6, maps.camphored(cell, 1));
        }
        maps.moth(2, 4, 0);
        isCamphored(maps, 5, 3, 9);
        Due.doNights(maps, "C!");
        isCamphored(maps, 3);
    }

    private void camphoredLeast() {
        due.of("promise 16, least bits");
        EatenMaps maps = new EatenMaps();
        maps.moth(0, 12, 0);
        isCamphored(maps, 0, 1, 5);
        isCamphored(maps, 1, 0, 2, 6);
        isCamphored(maps, 24, 19, 23);
        maps.moth(0, 10, 0);
        isCamphored(maps, 14, 5, 11, 15);
        maps.moth(0, 0, 0);
        maps.moth(1, 2, 0);
        isCamphored(maps, 22, 17, 21, 23);
        isCamphored(maps, 24, 19, 23);
        maps.moth(2, 4, 0);
        isCamphored(maps, 22, 17, 21, 23);
    }

    private void camphoredRefusals() {
        due.of("promise 16, refused");
        EatenMaps maps = new EatenMaps();
        due.is("camphored(25, 0)", -1, maps.camphored(25, 0));
        due.is("camphored(-1, 2)", -1, maps.camphored(-1, 2));
        due.is("camphored(0, 2)", -2, maps.camphored(0, 2));
        due.is("camphored(0, -1)", -2, maps.camphored(0, -1));
    }

    private void isDarned(EatenMaps maps, int ways, int first) {
        due.is("darned(0)", ways, maps.darned(0));
        due.is("darned(1)", first, maps.darned(1));
    }

    private void darnedFew() {
        due.of("promise 17");
        EatenMaps maps = new EatenMaps();
        isDarned(maps, 1, 0);
        maps.land(12, 0);
        isDarned(maps, 3, 1);
        maps.land(13, 0);
        isDarned(maps, 6, 12);
        maps.land(14, 4);
        isDarned(maps, 4, 13);
        maps.land(11, 4);
        isDarned(maps, 2, 13);
        maps.land(11, 0);
        isDarned(maps, 8, 121);
        maps.land(6, 4);
        isDarned(maps, 6, 121);
        maps.land(10, 4);
        maps.land(18, 3);
        isDarned(maps, 6, 121);
        due.is("told(112): nothing is darned", 0, maps.told(112));
        maps.spool(1, 0);
        maps.spool(2, 0);
        maps.spool(3, 0);
        isDarned(maps, 6, 121);
        due.is("darned(2)", -2, maps.darned(2));
        due.is("darned(-1)", -2, maps.darned(-1));
    }

    private void darnedMany() {
        due.of("promise 17, nine holes");
        EatenMaps maps = new EatenMaps();
        for (int cell = 0; cell < 18; cell += 2) {
            maps.land(cell, 0);
        }
        isDarned(maps, 19683, 111111111);
        maps.land(1, 4);
        isDarned(maps, 5832, 111111111);
        maps.land(24, 0);
        due.is("darned(0)", -3, maps.darned(0));
        due.is("darned(1)", -3, maps.darned(1));
        due.is("darned(2)", -2, maps.darned(2));
        Due.paint(maps, "00011" + "00011" + "00011" + "11111" + "11111");
        isDarned(maps, 246, 121212121);
        maps.land(3, 4);
        due.is("darned(1)", 121212121, maps.darned(1));
        maps.land(15, 4);
        due.is("darned(1)", 121212121, maps.darned(1));
        maps.land(13, 4);
        maps.land(8, 4);
        due.is("darned(1)", 121213121, maps.darned(1));
    }

    private void sheets() {
        due.of("promise 18");
        EatenMaps maps = new EatenMaps();
        isSheet(maps, 1111, 16, 0);
        Due.paint(maps, "01234" + "50123" + "45012" + "34501" + "23450");
        isSheet(maps, 150, 4, 0);
        isSheet(maps, 1201, 3, 1);
        isSheet(maps, 2312, 2, 2);
        isSheet(maps, 3423, 2, 3);
        isSheet(maps, 5045, 3, 5);
        isSheet(maps, 5555, 0, -6);
        isSheet(maps, 0, 0, -6);
        isSheet(maps, 4050, 0, -6);
        maps.land(23, 0);
        maps.land(18, 0);
        maps.land(19, 0);
        isSheet(maps, 0, 1, 18);
        Due.paint(maps, "11112" + "31111" + "11111" + "11111" + "11111");
        isSheet(maps, 1231, 0, -6);
        isSheet(maps, 1131, 1, 0);
    }

    private void isSheet(EatenMaps maps, int lands, int count, int first) {
        due.is("sheet(" + lands + ", 0)", count, maps.sheet(lands, 0));
        due.is("sheet(" + lands + ", 1)", first, maps.sheet(lands, 1));
    }

    private void sheetRefusals() {
        due.of("promise 18, refused");
        EatenMaps maps = new EatenMaps();
        int[] wrong = {6, 60, 600, 6000, 1116, 1161, 1611, 6111, 5559, 9555, 10000, 11111, -1, -1111, 5556,
            Integer.MAX_VALUE, Integer.MIN_VALUE};
        for (int lands : wrong) {
            due.is("sheet(" + lands + ", 0)", -2, maps.sheet(lands, 0));
        }
        due.is("sheet(1111, 2)", -2, maps.sheet(1111, 2));
        due.is("sheet(1111, -1)", -2, maps.sheet(1111, -1));
    }
}
