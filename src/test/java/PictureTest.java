/** Promises 11, 19, 26 to 28: pictures and marks at a shop. */
public final class PictureTest {
    private static final Check check = new Check();
    private static final String SHOP = "size 4 3;slip 5;sheet 7 5 7;sheet 8 8 8;sheet 0 6;wear 1 1;";
    private static final String PICTURE = "row 4 4 4 6;row 4 5 5 6;row 4 4 4 6;";

    public static void main(String[] args) {
        make();
        makeByColours();
        colours();
        plain();
        off();
        fits();
        fitsAtEdges();
        check.finish();
    }

    private static void makes(String shop, String picture, int... row) {
        StencilHouse house = new StencilHouse();
        check.told(house, 0, shop);
        check.told(house, 2, picture);
        check.due("how many of '" + picture + "'", house.make(0, 0, -1), row.length);
        for (int k = 0; k < row.length; k++) {
            check.due(k + " of '" + picture + "'", house.make(0, 0, k), row[k]);
        }
        check.due("not so many of '" + picture + "'", house.make(0, 0, row.length), -1);
        check.due("k -2 of '" + picture + "'", house.make(0, 0, -2), -1);
    }

    private static void makesNone(String shop, String picture) {
        StencilHouse house = new StencilHouse();
        check.told(house, 0, shop);
        check.told(house, 2, picture);
        check.due("none of '" + picture + "'", house.make(0, 0, -1), -1);
        check.due("none of '" + picture + "'", house.make(0, 0, 0), -1);
    }

    private static void make() {
        makes(SHOP, PICTURE, 4, 16, 25);
        makes(SHOP, "");
        makes("", "");
        makes(SHOP, "row 4 4 4;row 4 4 4;row 4 4 4;", 4);
        makes(SHOP, "row 0;row 0 9 9;", 29);
        makesNone(SHOP, "row 0 0 0 0 1;");
        makesNone(SHOP, "row 1;");
        makesNone(SHOP, "row 4 4 4;row 4 5 4;row 4 4 4;");
        makesNone("", "row 1;");
        // Slid, the sheet could make it.
        makesNone("sheet 1;", "row 0 1;");
        StencilHouse house = new StencilHouse();
        check.told(house, 2, "");
        check.due("no shop", house.make(0, 0, -1), -1);
        check.told(house, 0, SHOP);
        check.due("no picture", house.make(0, 1, -1), -1);
    }

    // The least first spray may stand in a row whose sheets come later by numbers.
    private static void makeByColours() {
        makes("size 2 1;sheet 3;sheet 1;sheet 2;", "row 2 1;", 1, 12);
        makes("size 2 1;sheet 3;sheet 1;sheet 2;", "row 1 2;", 1, 22);
        makes("size 2 1;sheet 3;sheet 2;", "row 2 1;", 2, 11);
    }

    private static void coloursAre(String picture, int many, int most) {
        StencilHouse house = new StencilHouse();
        check.told(house, 2, picture);
        check.due("colours of '" + picture + "'", house.colours(0, 0), many);
        check.due("most of '" + picture + "'", house.colours(0, 1), most);
        check.due("what 2", house.colours(0, 2), -2);
        check.due("what -1", house.colours(0, -1), -2);
        check.due("no picture", house.colours(1, 0), -2);
    }

    private static void colours() {
        coloursAre(PICTURE, 3, 4);
        coloursAre("row 2 1;", 2, 1);
        coloursAre("row 9;row;row;row;row 0 0 0 0 9;", 1, 9);
        coloursAre("", 0, -1);
    }

    private static void plain() {
        StencilHouse house = new StencilHouse();
        check.told(house, 0, SHOP);
        check.told(house, 2, "row 4 4 4 6;row 4 5 4 6;row 4 4 4 6;");
        check.told(house, 2, "row 0 0 0 0 1;row 2;row;row 3;");
        check.due("one falls", house.plain(0, 0, 4), 1);
        check.due("none falls", house.plain(0, 0, 6), 0);
        check.due("colour that is not there", house.plain(0, 0, 9), 0);
        check.due("no cell, right", house.plain(0, 1, 1), -1);
        check.due("cell", house.plain(0, 1, 2), 0);
        check.due("no cell, below", house.plain(0, 1, 3), -1);
        check.due("colour 0", house.plain(0, 0, 0), -1);
        check.due("colour 10", house.plain(0, 0, 10), -1);
        check.due("no shop", house.plain(1, 0, 4), -1);
        check.due("no picture", house.plain(0, 2, 4), -1);
    }

    private static void off() {
        StencilHouse house = new StencilHouse();
        check.told(house, 0, SHOP);
        check.told(house, 0, "sheet 1;sheet 3;");
        check.told(house, 2, PICTURE);
        check.told(house, 2, "row 1 1 1 2 9;row 1 3 3 2;row 1 1 1 2;row 8;");
        check.due("all", house.off(0, 0), 12);
        check.due("none", house.off(0, 1), 0);
        check.due("bare cells, too", house.off(1, 1), 9);
        Check.tell(house, 2, 0, "row 1 2;");
        check.due("one", house.off(1, 0), 1);
        check.due("no shop", house.off(2, 0), -1);
        check.due("no picture", house.off(0, 2), -1);
    }

    private static void fitsAre(String shop, String marks, int sure, int ask, int... orders) {
        StencilHouse house = new StencilHouse();
        check.told(house, 0, shop);
        check.told(house, 3, marks);
        check.due("how many by '" + marks + "'", house.fits(0, 0, 0), orders.length);
        check.due("sure by '" + marks + "'", house.fits(0, 0, 1), sure);
        check.due("ask by '" + marks + "'", house.fits(0, 0, 2), ask);
        for (int k = 0; k < orders.length; k++) {
            check.due(k + " by '" + marks + "'", house.fits(0, 0, 10 + k), orders[k]);
        }
        check.due("not so many by '" + marks + "'", house.fits(0, 0, 10 + orders.length), -2);
        check.due("what 3", house.fits(0, 0, 3), -2);
        check.due("what 9", house.fits(0, 0, 9), -2);
        check.due("what -1", house.fits(0, 0, -1), -2);
        check.due("what MIN", house.fits(0, 0, Integer.MIN_VALUE), -2);
        check.due("what MAX", house.fits(0, 0, Integer.MAX_VALUE), -2);
        check.due("no shop", house.fits(1, 0, 0), -2);
        check.due("no marks", house.fits(0, 1, 0), -2);
    }

    private static void fits() {
        fitsAre(SHOP, "top 1 1 0;", -1, 0, 1120, 1201, 1210);
        fitsAre(SHOP, "", -1, 5, 1012, 1021, 1102, 1120, 1201, 1210);
        fitsAre(SHOP, "bare 0 0;", -1, -1);
        fitsAre(SHOP, "top 3 0 1;bare 2 2;", -1, -1);
        fitsAre("sheet 3;sheet 1;sheet 2;", "top 0 0 1;top 1 0 0;", 1, 0, 1201);
    }

    private static void fitsAtEdges() {
        fitsAre(SHOP, "top 4 0 1;", -1, -1);
        fitsAre(SHOP, "bare 4 0;", -1, -1);
        fitsAre(SHOP, "bare 0 3;", -1, -1);
        fitsAre(SHOP, "top 0 0 5;", -1, -1);
        fitsAre("", "", -1, 0, 1);
        fitsAre("", "bare 2 2;", -1, 0, 1);
        fitsAre("", "top 2 2 0;", -1, -1);
        fitsAre("sheet 1;", "top 0 0 0;bare 1 0;", 0, 0, 10);
        fitsAre("sheet 3;sheet 1;", "top 0 0 1;", 1, 0, 101);
    }
}
