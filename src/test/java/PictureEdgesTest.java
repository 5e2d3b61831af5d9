/** The edges that the document names of promises 11, 19, 26 to 28: PICTURES and MARKS at a SHOP. */
public final class PictureEdgesTest {
    private static final Check check = new Check();
    private static final int[] NONE_SUCH = {-1, 1, 2, Integer.MIN_VALUE, Integer.MAX_VALUE};
    private static final int[] NONE = null;
    // Each SHEET is OPEN wherever the one before it is, and at one CELL more.
    private static final String NESTED = "size 5 2;sheet 1;sheet 3;sheet 7;sheet 15;sheet 31;sheet 31 1;";
    private static final String SIX_ALIKE = "sheet 1;sheet 1;sheet 1;sheet 1;sheet 1;sheet 1;";

    public static void main(String[] args) {
        noneSuch();
        makesOfNothing();
        makesNowhere();
        makesByNone();
        makesByFewest();
        makesFirstByNumbers();
        makesOfSix();
        fitsOfNothing();
        fitsWithoutSheets();
        fitsWithoutCells();
        fitsByLastOfThoseOpen();
        fitsOfAll();
        fitsOfTheLast();
        sure();
        ask();
        askOfAll();
        askedAgain();
        whatOfFits();
        colours();
        plainOfColours();
        plainOfNoCell();
        offs();
        check.finish();
    }

    // There is none such (of either).
    private static void noneSuch() {
        StencilHouse house = check.house("sheet 1;");
        check.told(house, 2, "row 1;");
        check.told(house, 3, "top 0 0 0;");
        check.due("make", house.make(0, 0, -1), 1);
        for (int none : NONE_SUCH) {
            check.due("make", house.make(none, 0, -1), -1);
            check.due("make", house.make(0, none, -1), -1);
            check.due("make", house.make(none, 0, 0), -1);
            check.due("make", house.make(0, none, 0), -1);
            for (int what = 0; what <= 10; what++) {
                check.due("fits", house.fits(none, 0, what), -2);
                check.due("fits", house.fits(0, none, what), -2);
            }
            check.due("colours", house.colours(none, 0), -2);
            check.due("colours", house.colours(none, 1), -2);
            check.due("plain", house.plain(none, 0, 1), -1);
            check.due("plain", house.plain(0, none, 1), -1);
            check.due("off", house.off(none, 0), -1);
            check.due("off", house.off(0, none), -1);
        }
    }

    // How many (k NONE), or the k-th; NONE: by none, not so many. (NONE for the row: by none.)
    private static void make(String shop, String picture, int... row) {
        StencilHouse house = check.house(shop);
        check.told(house, 2, picture);
        String name = "MAKE of '" + picture + "' at '" + shop + "' ";
        int many = row == NONE ? -1 : row.length;
        check.due(name, house.make(0, 0, -1), many);
        for (int k = 0; k < 8; k++) {
            check.due(name + k, house.make(0, 0, k), k < many ? row[k] : -1);
        }
        int[] others = {-2, 100, Integer.MIN_VALUE, Integer.MAX_VALUE};
        for (int k : others) {
            check.due(name + k, house.make(0, 0, k), -1);
        }
    }

    private static void makesOfNothing() {
        make("", "");
        make("sheet 7 7 7;", "row 0 0 0 0 0;row;row;row;row;");
        make("size 5 5;" + SIX_ALIKE, "");
        make("", "row 1;", NONE);
        make("sheet;", "row 1;", NONE);
    }

    // A colour where there is no CELL: by none.
    private static void makesNowhere() {
        make("sheet 1;", "row 1 0 0 1;", NONE);
        make("sheet 1;", "row 1;row;row;row 1;", NONE);
        make("sheet 1;", "row 1;row;row;row;row 0 0 0 0 9;", NONE);
        make("", "row 0 0 0 1;", NONE);
        make("size 1 1;sheet 1;", "row 1 1;", NONE);
        make("size 1 1;sheet 1;", "row 1;row 1;", NONE);
        make("size 1 1;sheet 1;", "row 1;", 1);
        make("size 5 5;sheet 0 0 0 0 16;", "row;row;row;row;row 0 0 0 0 9;", 9);
        make("size 4 5;sheet 0 0 0 0 8;", "row;row;row;row;row 0 0 0 0 9;", NONE);
        make("size 5 4;sheet 0 0 0 16;", "row;row;row;row;row 0 0 0 0 9;", NONE);
    }

    private static void makesByNone() {
        make("sheet 3;", "row 1;", NONE);
        make("sheet 1;", "row 1 1;", NONE);
        make("sheet 3;", "row 1 2;", NONE);
        // Each SHEET once at most: the first would be needed twice.
        make("sheet 1;sheet 2;sheet 7;", "row 1 2 3;row 1;", NONE);
        // Not slid.
        make("sheet 1;", "row 0 1;", NONE);
        make("sheet 1;sheet 1;", "row 1 1;", NONE);
        // What falls is sprayed, too.
        make("sheet 7 5 7;", "row 1 1 1;row 1 0 1;row 1 1 1;", NONE);
        make("sheet 7 5 7;", "row 1 1 1;row 1 1 1;row 1 1 1;", 1);
    }

    // The fewest sprays.
    private static void makesByFewest() {
        make("sheet 1;sheet 2;sheet 3;", "row 4 4;", 24);
        make("sheet 1;sheet 2;sheet 3;", "row 4 5;", 4, 15);
        make("sheet 3;sheet 1;", "row 4 5;", 5, 14);
        make("sheet 3;sheet 1;", "row 4 4;", 4);
        make("sheet 7;sheet 3;sheet 1;", "row 4 5 6;", 6, 15, 24);
        // Often sprayed or not, each has one spray.
        make("sheet 3;sheet 1;wear 0 1;wear 1 1;", "row 4 5;", 5, 14);
    }

    // The first by numbers: 10 times the SHEET, and the colour.
    private static void makesFirstByNumbers() {
        make("sheet 1;sheet 1;", "row 9;", 9);
        make("sheet;sheet 1;sheet 1;", "row 1;", 11);
        make("sheet 1;sheet 2;", "row 9 1;", 9, 11);
        make("size 2 1;sheet 3;sheet 1;sheet 2;", "row 2 1;", 1, 12);
        make("size 2 1;sheet 3;sheet 1;sheet 2;", "row 1 2;", 1, 22);
        make("size 2 1;sheet 2;sheet 1;sheet 3;", "row 1 2;", 2, 11);
        make("size 3 1;sheet 7;sheet 3;sheet 6;sheet 2;", "row 2 1 2;", 2, 31);
        make("size 3 1;sheet 3;sheet 6;", "row 2 1 1;", 2, 11);
    }

    // A row of six that comes last by numbers, and one that comes first.
    private static void makesOfSix() {
        make(NESTED, "row 1 2 3 4 5;row 6;", 56, 45, 34, 23, 12, 1);
        make("size 5 2;sheet 31 1;sheet 31;sheet 15;sheet 7;sheet 3;sheet 1;", "row 1 2 3 4 5;row 6;", 6, 15, 24, 33, 42, 51);
        make("sheet 1;sheet 2;sheet 4;sheet 0 1;sheet 0 2;sheet 0 4;", "row 9 8 7;row 6 5 4;", 9, 18, 27, 36, 45, 54);
        make(NESTED, "row 1 1 1 1 1;row 1;", 51);
        make(NESTED, "row 1 2 2 2 2;row 2;", 52, 1);
    }

    private static void fits(String shop, String marks, int sure, int ask, int... orders) {
        StencilHouse house = check.house(shop);
        check.told(house, 3, marks);
        String name = "fits of '" + marks + "' at '" + shop + "' ";
        int[] due = {orders.length, sure, ask};
        for (int what = 0; what < 3; what++) {
            check.due(name + what, house.fits(0, 0, what), due[what]);
        }
        for (int k = 0; k < orders.length; k++) {
            check.due(name + "k " + k, house.fits(0, 0, 10 + k), orders[k]);
        }
        int[] others = {-1, 3, 9, 10 + orders.length, 11 + orders.length, 730, 1000, Integer.MIN_VALUE, Integer.MAX_VALUE};
        for (int what : others) {
            check.due(name + what, house.fits(0, 0, what), -2);
        }
    }

    // Nothing that FITS: SURE is NONE (not one), ASK is NONE.
    private static void fitsOfNothing() {
        fits("sheet 1;", "bare 0 0;", -1, -1);
        fits("sheet 1;", "top 1 1 0;", -1, -1);
        fits("sheet 1;", "top 0 0 1;", -1, -1);
        fits("sheet 1;", "top 0 0 5;", -1, -1);
        fits("sheet 1;sheet 1;", "top 0 0 0;top 0 0 1;", -1, -1);
        fits("sheet 1;sheet 1;", "top 0 0 0;bare 0 0;", -1, -1);
        fits("sheet 3;sheet 3;", "top 0 0 0;top 1 0 1;", -1, -1);
        // One that is none OPEN does not lie on top there.
        fits("sheet 1;sheet 2;", "top 1 0 0;", -1, -1);
    }

    // Without SHEETS there is one row, of none; SURE: NONE: no SHEETS.
    private static void fitsWithoutSheets() {
        fits("", "", -1, 0, 1);
        fits("", "bare 0 0;bare 2 2;bare 0 0;", -1, 0, 1);
        fits("", "top 0 0 0;", -1, -1);
        fits("", "bare 3 0;", -1, -1);
    }

    // Where there is no CELL: never.
    private static void fitsWithoutCells() {
        fits("sheet 7 7 7;", "top 3 0 0;", -1, -1);
        fits("sheet 7 7 7;", "top 0 3 0;", -1, -1);
        fits("sheet;", "bare 3 0;", -1, -1);
        fits("sheet;", "bare 0 3;", -1, -1);
        fits("sheet;", "bare 4 4;", -1, -1);
        fits("sheet;", "bare 2 2;", 0, 0, 10);
        fits("sheet 7 7 7;", "top 2 2 0;top 3 0 0;", -1, -1);
        fits("size 1 1;sheet 1;", "top 0 0 0;", 0, 0, 10);
        fits("size 1 1;sheet 1;", "top 1 0 0;", -1, -1);
        fits("size 5 5;sheet 0 0 0 0 16;", "top 4 4 0;bare 3 4;bare 4 3;", 0, 0, 10);
    }

    // The SHEET sprayed last of those OPEN there is the one told, or none is OPEN.
    private static void fitsByLastOfThoseOpen() {
        fits("sheet 1;sheet 1;", "top 0 0 0;", 0, 0, 110);
        fits("sheet 1;sheet 1;", "top 0 0 1;", 1, 0, 101);
        fits("sheet 1;sheet 1;", "top 0 0 1;top 0 0 1;bare 1 0;", 1, 0, 101);
        fits("sheet 1;sheet 1;sheet 2;", "top 0 0 1;", -1, 0, 1012, 1021, 1201);
        fits("sheet 1;sheet 3;sheet 2;", "top 0 0 1;top 1 0 2;", 2, 0, 1012);
        fits("sheet;sheet 1;", "top 0 0 1;", -1, 0, 101, 110);
        // What falls is OPEN.
        fits("sheet 7 5 7;sheet;", "top 1 1 0;", -1, 0, 101, 110);
        fits("sheet 7 5 7;sheet;", "bare 1 1;", -1, -1);
        fits("sheet 7 5 7;sheet 0 2;", "top 1 1 0;", 0, 0, 110);
    }

    // All 720 rows of six; the k-th by numbers, as a number.
    private static void fitsOfAll() {
        StencilHouse house = check.house(SIX_ALIKE);
        check.told(house, 3, "");
        int[] whats = {0, 1, 2, 10, 11, 12, 10 + 119, 10 + 120, 10 + 718, 10 + 719, 10 + 720};
        int[] due = {720, -1, 0, 1012345, 1012354, 1012435, 1054321, 1102345, 1543201, 1543210, -2};
        for (int i = 0; i < whats.length; i++) {
            check.due("what " + whats[i], house.fits(0, 0, whats[i]), due[i]);
        }
        int last = 0;
        for (int k = 0; k < 480; k += 4) {
            int number = house.fits(0, 0, 10 + k);
            check.due("greater than before", number > last, true);
            last = number;
        }
    }

    // By many MARKS the last row by numbers alone; ahead of it the first alone.
    private static void fitsOfTheLast() {
        fits(NESTED, "top 0 0 0;top 1 0 1;top 2 0 2;top 3 0 3;top 4 0 4;top 0 1 5;bare 1 1;bare 4 1;", 0, 0, 1543210);
        fits(NESTED, "top 0 0 5;top 1 0 5;", 5, 0, ordersBefore5());
        fits("sheet 1;sheet 3;sheet 7;", "top 0 0 2;", 2, 0, 1012, 1102);
    }

    // All rows of 0 to 4, by numbers, 5 behind them.
    private static int[] ordersBefore5() {
        int[] orders = new int[120];
        int many = 0;
        for (int digits = 0; digits < 100000; digits++) {
            int used = 0;
            for (int rest = digits, i = 0; i < 5; i++, rest /= 10) {
                used |= 1 << rest % 10;
            }
            if (used == 31) {
                orders[many] = 1000000 + digits * 10 + 5;
                many++;
            }
        }
        return orders;
    }

    // SURE: the SHEET sprayed last, if it is one in all that FIT (NONE: not one, no SHEETS).
    private static void sure() {
        fits("sheet 1;", "", 0, 0, 10);
        fits("sheet;sheet;", "", -1, 0, 101, 110);
        fits("sheet 1;sheet 1;sheet 2;", "top 0 0 0;", -1, 0, 1102, 1120, 1210);
        fits("sheet 1;sheet 3;sheet 2;", "top 0 0 0;top 1 0 1;", 0, 0, 1210);
        fits("sheet 3;sheet 1;sheet 2;", "top 0 0 0;top 1 0 0;", 0, 0, 1120, 1210);
        // Not the same one at first and at the end, but another one between.
        fits("sheet 3;sheet 1;sheet 2;", "top 0 0 0;", -1, 1, 1102, 1120, 1210);
    }

    // ASK: the CELL at which the greatest number by which one SHEET, or none, lies on top is least, of several the least.
    private static void ask() {
        fits("sheet;", "", 0, 0, 10);
        fits("sheet 0 2;", "", 0, 0, 10);
        fits("sheet 6;sheet 4;", "", -1, 2, 101, 110);
        fits("sheet 6;sheet 6;", "", -1, 1, 101, 110);
        fits("sheet 6;sheet 6;", "top 1 0 0;", 0, 0, 110);
        fits("size 5 5;sheet 0 0 0 0 16;sheet 0 0 0 0 16;", "", -1, 24, 101, 110);
        fits("size 5 5;sheet 0 0 0 16 16;sheet 0 0 0 16 16;", "", -1, 19, 101, 110);
        fits("sheet 1;sheet 3;sheet 2;", "", -1, 0, 1012, 1021, 1102, 1120, 1201, 1210);
        fits("sheet 1;sheet 3;sheet 3;", "", -1, 0, 1012, 1021, 1102, 1120, 1201, 1210);
        fits("sheet 3;sheet 3;sheet 2;", "", -1, 1, 1012, 1021, 1102, 1120, 1201, 1210);
    }

    // Where all 720 rows FIT and none is OPEN anywhere, all CELLS are alike.
    private static void askOfAll() {
        StencilHouse house = check.house("sheet;".repeat(6), "size 5 5;" + "sheet 0 0 0 0 16;".repeat(6));
        check.told(house, 3, "");
        check.due("none is OPEN", house.fits(0, 0, 2), 0);
        check.due("all are OPEN at the last CELL", house.fits(1, 0, 2), 24);
    }

    // What was asked before leaves no trace.
    private static void askedAgain() {
        StencilHouse house = check.house("sheet 1;sheet 1;sheet 4;", "sheet 0 2;sheet 0 2;");
        check.told(house, 3, "");
        check.told(house, 3, "top 0 0 1;");
        for (int round = 0; round < 3; round++) {
            check.due("SHOP 0", house.fits(0, 0, 2), 0);
            check.due("SHOP 1", house.fits(1, 0, 2), 4);
            check.due("SHOP 0, MARKS 1", house.fits(0, 1, 2), 0);
            check.due("SHOP 1, MARKS 1", house.fits(1, 1, 2), -1);
            check.due("its number", house.fits(0, 1, 0), 3);
            check.due("its first", house.fits(0, 1, 10), 1012);
        }
    }

    // -2: there is none such (of any), or for another what.
    private static void whatOfFits() {
        StencilHouse house = check.house("sheet 1;sheet 1;");
        check.told(house, 3, "");
        int[] due = {2, -1, 0, -2, -2, -2, -2, -2, -2, -2, 101, 110, -2, -2};
        for (int what = -20; what < 14; what++) {
            check.due("what " + what, house.fits(0, 0, what), what >= 0 ? due[what] : -2);
        }
    }

    private static void colours(String picture, int many, int most) {
        StencilHouse house = new StencilHouse();
        check.told(house, 2, picture);
        for (int what = -5; what < 10; what++) {
            check.due("COLOURS " + what + " of '" + picture + "'", house.colours(0, what), what == 0 ? many : what == 1 ? most : -2);
        }
        check.due("MIN", house.colours(0, Integer.MIN_VALUE), -2);
        check.due("MAX", house.colours(0, Integer.MAX_VALUE), -2);
    }

    // How many colours, but 0, it has; the one of most places, of several the least (none: none).
    private static void colours() {
        colours("", 0, -1);
        colours("row 0 0 0 0 0;row;row;row;row;", 0, -1);
        colours("row;row;row;row;row 0 0 0 0 9;", 1, 9);
        colours("row 1;", 1, 1);
        colours("row 9 1;", 2, 1);
        colours("row 9 9 1;", 2, 9);
        colours("row 1 2 3 4 5;row 6 7 8 9;", 9, 1);
        colours("row 1 2 3 4 5;row 6 7 8 9 8;row 0 7;", 9, 7);
        colours("row 9 9 9 9 9;row 9 9 9 9 9;row 9 9 9 9 9;row 9 9 9 9 9;row 9 9 9 9 9;", 1, 9);
    }

    // A colour, 1 .. 9; NONE: another colour.
    private static void plainOfColours() {
        StencilHouse house = check.house("");
        check.told(house, 2, "");
        for (int colour = -3; colour < 14; colour++) {
            boolean is = colour >= 1 && colour <= 9;
            check.due("not there " + colour, house.plain(0, 0, colour), is ? 0 : -1);
        }
        for (int colour = 1; colour <= 9; colour++) {
            String c = " " + colour;
            String o = " " + (colour + 1) % 10;
            Check.tell(house, 2, 0, "row" + c + c + c + ";row" + c + o + c + ";row" + c + c + c + ";");
            check.due("a ring of " + colour, house.plain(0, 0, colour), 1);
            check.due("in it " + colour % 9, house.plain(0, 0, (colour + 1) % 10), colour == 9 ? -1 : 0);
            Check.tell(house, 2, 0, "row" + o + c + o + ";row" + c + o + c + ";row" + o + c + o + ";");
            check.due("four of " + colour, house.plain(0, 0, colour), 1);
            Check.tell(house, 2, 0, "row" + o + c + o + ";row" + c + o + o + ";row" + o + c + o + ";");
            check.due("three of " + colour, house.plain(0, 0, colour), 0);
        }
        check.due("MIN", house.plain(0, 0, Integer.MIN_VALUE), -1);
        check.due("MAX", house.plain(0, 0, Integer.MAX_VALUE), -1);
        StencilHouse large = check.house("size 5 5;");
        check.told(large, 2, "row 1 1 1 1 1;row 1;");
        int[] others = {-1, 0, 10, 11, 100};
        for (int colour : others) {
            check.due("where all places are CELLS " + colour, large.plain(0, 0, colour), -1);
        }
        // All of it CUT: nothing is left to fall. And no SHEET counts.
        Check.tell(house, 2, 0, "row 1 1 1;row 1 1 1;row 1 1 1;");
        check.due("all", house.plain(0, 0, 1), 0);
        Check.tell(house, 0, 0, "size 5 5;sheet 31 31 31 31 31;");
        Check.tell(house, 2, 0, "row 1 1 1 1 1;row 1 0 0 0 1;row 1 0 2 0 1;row 1 0 0 0 1;row 1 1 1 1 1;");
        check.due("nine", house.plain(0, 0, 1), 9);
        check.due("none", house.plain(0, 0, 2), 0);
        Check.tell(house, 2, 0, "row 0 0 1;row 0 1 0 1;row 1 0 0 0 1;row 0 1 0 1;row 0 0 1;");
        check.due("a diamond", house.plain(0, 0, 1), 5);
    }

    // Of a place that is no CELL: none.
    private static void plainOfNoCell() {
        StencilHouse house = check.house("size 3 2;", "size 5 5;");
        for (int place = 0; place < 25; place++) {
            int x = place % 5;
            int y = place / 5;
            check.due("told", Check.tell(house, 2, house.count(2) - 1, "row;".repeat(y) + "row" + " 0".repeat(x) + " 3;"), 0);
            check.due("at " + x + " " + y, house.plain(0, 0, 3), x < 3 && y < 2 ? 0 : -1);
            check.due("of 5 by 5 at " + x + " " + y, house.plain(1, 0, 3), 0);
            check.due("another colour", house.plain(0, 0, 4), 0);
        }
        Check.tell(house, 2, 0, "row 3 4 3 4;row 3 5 3;");
        check.due("one is a CELL, one is not", house.plain(0, 0, 4), -1);
        check.due("all are CELLS", house.plain(0, 0, 3), 0);
    }

    private static void off(String shop, String picture, int due) {
        StencilHouse house = check.house(shop);
        check.told(house, 2, picture);
        check.due("OFF of '" + picture + "' at '" + shop + "'", house.off(0, 0), due);
    }

    // At how many CELLS the wall is otherwise, all SHEETS being sprayed once, each with its number and 1.
    private static void offs() {
        off("", "", 0);
        off("", "row 1 0 2;row;row 0 0 9;", 3);
        off("size 1 1;", "row 9;", 1);
        // Places that are no CELLS do not count.
        off("", "row 0 0 0 1 1;row;row;row 1 1 1 1 1;", 0);
        off("size 1 1;sheet 1;", "row 1 1;row 1 1;", 0);
        off("size 5 5;sheet 31 31 31 31 31;", "", 25);
        off("size 5 5;sheet 31 31 31 31 31;", "row 1 1 1 1 1;row 1 1 1 1 1;row 1 1 1 1 1;row 1 1 1 1 1;row 1 1 1 1 1;", 0);
        off("sheet;", "", 0);
        off("sheet;", "row 1;", 1);
        off("sheet 3;sheet 1;", "row 2 1;", 0);
        off("sheet 3;sheet 1;", "row 1 1;", 1);
        off("sheet 3;sheet 1;", "row 1 2;", 2);
        off("sheet 1;sheet 3;", "row 2 2;", 0);
        off(SIX_ALIKE, "row 6;", 0);
        off(SIX_ALIKE, "row 5;", 1);
        off("sheet 7 5 7;", "row 1 1 1;row 1 1 1;row 1 1 1;", 0);
    }
}
