/** The edges that the document names of promises 10, 12 to 16, 21 to 25: figures of SHEETS of a SHOP as told. */
public final class SheetEdgesTest {
    private static final Check check = new Check();
    private static final int[] NO_SHOP = {-1, 1, 2, Integer.MIN_VALUE, Integer.MAX_VALUE};
    private static final String FULL = "size 5 5;sheet 31 31 31 31 31;";
    private static final int FULL_CELLS = (1 << 25) - 1;
    // Each SHEET is OPEN wherever the one before it is, and at one CELL more.
    private static final String NESTED = "size 5 2;sheet 1;sheet 3;sheet 7;sheet 15;sheet 31;sheet 31 1;";

    public static void main(String[] args) {
        noSuchShop();
        noSuchSheet();
        bridgesOfNone();
        bridgesOfThreeAtMost();
        bridgesLeast();
        covers();
        atOnces();
        duelsOfNone();
        duelsOfSix();
        duelsWithNothing();
        duelsLeast();
        chancesWithoutSlip();
        chancesWithSlipOfTen();
        chancesInLeastTerms();
        chancesOfColours();
        withinOnWAndH();
        withinOneCellOrMore();
        holesOfNothingAndAll();
        holesJoined();
        edges();
        strokes();
        mirrorsAndTurns();
        twins();
        allAndNone();
        fallingAndNeed();
        stacks();
        nearly();
        hidden();
        whatOfSheets();
        unlikes();
        seens();
        shows();
        check.finish();
    }

    // There is none such: a SHOP that was not told, below 0, one more than there are.
    private static void noSuchShop() {
        StencilHouse house = check.house("sheet 1;sheet 3;");
        for (int none : NO_SHOP) {
            check.due("bridges", house.bridges(none, 0, false), -1);
            check.due("bridges", house.bridges(none, 0, true), -1);
            check.due("cover", house.cover(none, false), -1);
            check.due("cover", house.cover(none, true), -1);
            check.due("atOnce", house.atOnce(none, false), -1);
            check.due("atOnce", house.atOnce(none, true), -1);
            check.due("duel", house.duel(none, 0, false), -99);
            check.due("duel", house.duel(none, 0, true), -99);
            check.due("chance", house.chance(none, 0, 0, false), -1);
            check.due("chance", house.chance(none, 0, 0, true), -1);
            check.due("within", house.within(none, 0, 0), -1);
            check.due("holes", house.holes(none, 0, 0), -1);
            check.due("sheets", house.sheets(none, 0), -2);
            check.due("unlike", house.unlike(none, 0, 0), -1);
            check.due("seen", house.seen(none, 0), -1);
            check.due("show", house.show(none, -1), -1);
            check.due("show", house.show(none, 0), -1);
        }
    }

    private static void noSuchSheet() {
        int[] others = {-1, 6, 7, 100, Integer.MIN_VALUE, Integer.MAX_VALUE};
        for (int sheets = 0; sheets <= 6; sheets++) {
            StencilHouse house = check.house("sheet 1;".repeat(sheets));
            for (int sheet = 0; sheet < 6; sheet++) {
                boolean is = sheet < sheets;
                oneSheet(house, sheet, is);
                check.due("within", house.within(0, sheet, 0), is ? 1 : -1);
                check.due("within", house.within(0, 0, sheet), is ? 1 : -1);
                check.due("unlike", house.unlike(0, sheet, 0), is ? 0 : -1);
                check.due("unlike", house.unlike(0, 0, sheet), is ? 0 : -1);
            }
            for (int none : others) {
                oneSheet(house, none, false);
                check.due("within", house.within(0, none, 0), -1);
                check.due("within", house.within(0, 0, none), -1);
                check.due("unlike", house.unlike(0, none, 0), -1);
                check.due("unlike", house.unlike(0, 0, none), -1);
            }
        }
    }

    private static void oneSheet(StencilHouse house, int sheet, boolean is) {
        check.due("bridges " + sheet, house.bridges(0, sheet, false), is ? 0 : -1);
        check.due("bridges " + sheet, house.bridges(0, sheet, true), is ? 0 : -1);
        check.due("holes " + sheet, house.holes(0, sheet, 0), is ? 1 : -1);
        check.due("seen " + sheet, house.seen(0, sheet) >= 0, is);
    }

    private static void bridges(String shop, int sheet, int many, int which) {
        StencilHouse house = check.house(shop);
        check.due("BRIDGES of '" + shop + "'", house.bridges(0, sheet, false), many);
        check.due("BRIDGES which of '" + shop + "'", house.bridges(0, sheet, true), which);
    }

    // Nothing FALLS: by 0.
    private static void bridgesOfNone() {
        bridges("sheet;", 0, 0, 0);
        bridges("sheet 7 7 7;", 0, 0, 0);
        bridges(FULL, 0, 0, 0);
        bridges("size 1 1;sheet 1;", 0, 0, 0);
        bridges("sheet 6 5 7;sheet 5 5 7;", 1, 0, 0);
    }

    // The fewest CUT CELLS, 3 at most: NONE: by none of 3.
    private static void bridgesOfThreeAtMost() {
        bridges("sheet 7 5 7;", 0, 1, 2);
        // Islands at (1, 1), (3, 1), (1, 3), (3, 3): one, two, three and four of them.
        bridges("size 5 5;sheet 31 29 31 31 31;", 0, 1, 2);
        bridges("size 5 5;sheet 31 21 31 31 31;", 0, 2, 2 | 8);
        bridges("size 5 5;sheet 31 21 31 29 31;", 0, 3, 2 | 8 | 1 << 11);
        bridges("size 5 5;sheet 31 21 31 21 31;", 0, -1, -1);
        // The midst of 5 by 5 needs two, of which the first is not at the rim.
        bridges("size 5 5;sheet 31 31 27 31 31;", 0, 2, 4 | 1 << 7);
        bridges("size 5 5;sheet 31 31 27 31 29;", 0, 2, 4 | 1 << 7);
        // The largest island is held by one.
        bridges("size 5 5;sheet 31 17 17 17 31;", 0, 1, 2);
        bridges("size 5 5;sheet 31 17 17 17 30;", 0, 1, 2);
    }

    // Which (bits), of several the least.
    private static void bridgesLeast() {
        bridges("sheet 7 5 7;sheet 2 5 7;sheet 2 5 2;", 1, 1, 2);
        bridges("sheet 7 5 7;sheet 2 5 7;sheet 2 5 2;", 2, 1, 2);
        bridges("size 3 4;sheet 7 5 5 7;", 0, 1, 2);
        bridges("size 4 3;sheet 15 9 15;", 0, 1, 2);
        // (1, 1) and (2, 2): one by the rim, the other one by (2, 1) between them, which is less than any other way.
        bridges("size 4 4;sheet 15 13 11 15;", 0, 2, 2 | 1 << 6);
        bridges("size 5 5;sheet 31 31 31 23 31;", 0, 1, 1 << 19);
        bridges("size 5 5;sheet 31 31 31 27 31;", 0, 1, 1 << 22);
        bridges("size 5 5;sheet 31 31 31 29 31;", 0, 1, 1 << 15);
    }

    private static void cover(String shop, int which) {
        StencilHouse house = check.house(shop);
        check.due("COVER of '" + shop + "'", house.cover(0, false), Integer.bitCount(which));
        check.due("COVER which of '" + shop + "'", house.cover(0, true), which);
    }

    // The fewest SHEETS that, together, are OPEN wherever any is; of several the least.
    private static void covers() {
        cover("", 0);
        cover("sheet;", 0);
        cover("sheet;".repeat(6), 0);
        cover("sheet 1;", 1);
        cover("sheet;sheet 1;", 2);
        cover("sheet 1;sheet 1;", 1);
        cover("sheet 1;sheet 2;", 3);
        cover("sheet 1;sheet 2;sheet 3;", 4);
        cover("sheet 1;sheet 2;sheet 4;sheet 6;sheet 5;", 1 | 8);
        cover("sheet 1;sheet 2;sheet 4;sheet 0 1;sheet 0 2;sheet 0 4;", 63);
        cover("sheet 1;sheet 1;sheet 1;sheet 1;sheet 1;sheet 3;", 32);
        // What falls is OPEN.
        cover("sheet 0 2;sheet 7 5 7;", 2);
    }

    private static void atOnce(String shop, int which) {
        StencilHouse house = check.house(shop);
        check.due("ATONCE of '" + shop + "'", house.atOnce(0, false), Integer.bitCount(which));
        check.due("ATONCE which of '" + shop + "'", house.atOnce(0, true), which);
    }

    // The most SHEETS no two of which are OPEN at one CELL; of several the least.
    private static void atOnces() {
        atOnce("", 0);
        atOnce("sheet 7 7 7;", 1);
        atOnce("sheet;".repeat(6), 63);
        atOnce("sheet 7;".repeat(6), 1);
        atOnce("sheet 3;sheet 1;sheet 2;", 6);
        atOnce("sheet 3;sheet 1;sheet 4;", 5);
        atOnce("sheet 1;sheet 2;sheet 4;sheet 0 1;sheet 0 2;sheet 0 4;", 63);
        atOnce("sheet 7;sheet 7;sheet;", 5);
        // What falls is OPEN.
        atOnce("sheet 7 5 7;sheet 0 2;", 1);
    }

    private static void duel(String shop, int n, int worth, int first) {
        StencilHouse house = check.house(shop);
        check.due("DUEL of " + n + " '" + shop + "'", house.duel(0, n, false), worth);
        check.due("DUEL first of " + n + " '" + shop + "'", house.duel(0, n, true), first);
    }

    // NONE: n is 0; -99: another n.
    private static void duelsOfNone() {
        duel("sheet 7;", 0, 0, -1);
        duel("", 0, 0, -1);
        int[] others = {-1, 7, 8, -2, -99, Integer.MIN_VALUE, Integer.MAX_VALUE};
        for (int n : others) {
            duel("sheet 7;", n, -99, -99);
        }
        for (int n = 1; n <= 6; n++) {
            duel("", n, 0, 6);
            duel("sheet;", n, 0, 0);
        }
    }

    // n times in all, each SHEET once at most.
    private static void duelsOfSix() {
        String six = "size 3 2;sheet 1;sheet 2;sheet 4;sheet 0 1;sheet 0 2;sheet 0 4;";
        for (int n = 1; n <= 6; n++) {
            duel(six, n, n % 2, 0);
            duel("sheet 3;", n, 2, 0);
        }
        // The last who sprays it all has it.
        duel(FULL, 1, 25, 0);
        duel("sheet;sheet;sheet;sheet;sheet;sheet 7 7 7;", 1, 9, 5);
    }

    // 6: nothing.
    private static void duelsWithNothing() {
        duel("sheet 7;sheet 7;", 1, 3, 0);
        duel("sheet 7;sheet 7;", 2, -3, 0);
        // Whoever sprays the last but one loses it to the last: the first waits.
        duel("sheet 7;sheet 7;", 3, 3, 6);
        duel("sheet 7;sheet 7;", 4, -3, 0);
        duel("sheet 7;sheet 7;", 5, 3, 6);
        duel("sheet 7;sheet 7;", 6, -3, 0);
        duel("sheet 7;sheet 7;sheet 7;", 3, 3, 0);
    }

    // The least that is best.
    private static void duelsLeast() {
        duel("sheet 1;sheet 3;sheet 3;", 1, 2, 1);
        duel("sheet;sheet 1;", 1, 1, 1);
        duel("sheet;sheet;", 1, 0, 0);
        duel("sheet 3;sheet 1;", 2, 0, 0);
        duel("sheet 1;sheet 3;", 2, 0, 1);
    }

    private static void chance(StencilHouse house, int cell, int colour, int over, int under) {
        check.due("N at " + cell + " of " + colour, house.chance(0, cell, colour, false), over);
        check.due("D at " + cell + " of " + colour, house.chance(0, cell, colour, true), under);
    }

    // SLIP 0: what is OPEN has the colour of the last for sure.
    private static void chancesWithoutSlip() {
        StencilHouse house = check.house("sheet 1;sheet 3;");
        int[] colours = {2, 2, 0};
        for (int cell = 0; cell < 3; cell++) {
            for (int colour = 0; colour <= 6; colour++) {
                chance(house, cell, colour, colour == colours[cell] ? 1 : 0, 1);
            }
        }
    }

    // SLIP 10: each is slid for sure; what comes to lie beyond W is nowhere.
    private static void chancesWithSlipOfTen() {
        StencilHouse house = check.house("slip 10;sheet 1;sheet 4;sheet 7 5 7;");
        int[] colours = {0, 3, 3, 0, 3, 3, 0, 3, 3};
        StencilHouse first = check.house("slip 10;sheet 1;sheet 4;");
        for (int cell = 0; cell < 9; cell++) {
            for (int colour = 0; colour <= 6; colour++) {
                chance(house, cell, colour, colour == colours[cell] ? 1 : 0, 1);
                chance(first, cell, colour, colour == (cell == 1 ? 1 : 0) ? 1 : 0, 1);
            }
        }
        StencilHouse narrow = check.house("size 1 2;slip 10;sheet 1 1;");
        chance(narrow, 0, 0, 1, 1);
        chance(narrow, 1, 1, 0, 1);
    }

    // A fraction in least terms.
    private static void chancesInLeastTerms() {
        String six = "size 2 1;slip 3;" + "sheet 1;".repeat(6);
        int[] left = {729, 1701, 567, 189, 63, 21, 7};
        int[] leftUnder = {1000000, 1000000, 100000, 10000, 1000, 100, 10};
        int[] right = {117649, 50421, 7203, 1029, 147, 21, 3};
        int[] rightUnder = {1000000, 1000000, 100000, 10000, 1000, 100, 10};
        StencilHouse house = check.house(six);
        for (int colour = 0; colour <= 6; colour++) {
            chance(house, 0, colour, left[colour], leftUnder[colour]);
            chance(house, 1, colour, right[colour], rightUnder[colour]);
        }
        int[] slips = {1, 2, 4, 5, 6, 8, 9};
        int[] over = {9, 4, 3, 1, 2, 1, 1};
        int[] under = {10, 5, 5, 2, 5, 5, 10};
        for (int i = 0; i < slips.length; i++) {
            StencilHouse one = check.house("slip " + slips[i] + ";sheet 1;");
            chance(one, 0, 1, over[i], under[i]);
            chance(one, 0, 0, under[i] - over[i], under[i]);
            chance(one, 1, 1, under[i] - over[i], under[i]);
            chance(one, 1, 0, over[i], under[i]);
            chance(one, 2, 0, 1, 1);
        }
        // OPEN slid or not.
        chance(check.house("slip 7;sheet 3;"), 1, 1, 1, 1);
    }

    // A colour, 0 .. 6; NONE: another colour, or there is none such (of either).
    private static void chancesOfColours() {
        for (int sheets = 0; sheets <= 6; sheets++) {
            StencilHouse house = check.house("sheet 1;".repeat(sheets));
            int[] others = {-1, 7, 8, Integer.MIN_VALUE, Integer.MAX_VALUE};
            for (int colour = 0; colour <= 6; colour++) {
                chance(house, 0, colour, colour == sheets ? 1 : 0, 1);
                chance(house, 8, colour, colour == 0 ? 1 : 0, 1);
                chance(house, 9, colour, -1, -1);
                chance(house, -1, colour, -1, -1);
            }
            for (int colour : others) {
                chance(house, 0, colour, -1, -1);
                chance(house, colour == 8 ? 9 : colour == 7 ? 25 : colour, 0, -1, -1);
            }
        }
        StencilHouse full = check.house(FULL);
        chance(full, 24, 1, 1, 1);
        chance(full, 25, 1, -1, -1);
    }

    private static void within(String shop, int due) {
        check.due("WITHIN of '" + shop + "'", check.house(shop).within(0, 0, 1), due);
    }

    // By how many slides, 0 .. 4 each; what lies beyond W and H does not count.
    private static void withinOnWAndH() {
        for (int w = 1; w <= 5; w++) {
            for (int h = 1; h <= 5; h++) {
                String all = "sheet" + (" " + ((1 << w) - 1)).repeat(h) + ";";
                String size = "size " + w + " " + h + ";";
                within(size + all + all, w * h);
                within(size + "sheet 1;" + all, w * h);
            }
        }
        within("sheet 7;sheet 7;", 3);
        within("sheet 7;sheet 6;", 2);
        within("sheet 7;sheet 4 4;", 2);
        within("sheet 1;sheet 0 0 4;", 1);
        within("size 5 5;sheet 1;sheet 0 0 0 0 16;", 1);
        within("sheet 4;sheet 1;", 0);
        within("sheet 0 4;sheet 7 1 7;", 1);
        // What falls is OPEN, of both.
        within("sheet 0 2;sheet 7 5 7;", 4);
        within("sheet 7 5 7;sheet 7 1 7;", 3);
    }

    // One CELL or more.
    private static void withinOneCellOrMore() {
        within("sheet;sheet 7 7 7;", 0);
        within("sheet 7 7 7;sheet;", 0);
        within("sheet;sheet;", 0);
        within("sheet 0 0 4;sheet 7 7 7;", 1);
        StencilHouse house = check.house("sheet 1;sheet;");
        check.due("one SHEET twice", house.within(0, 0, 0), 1);
        check.due("one SHEET twice", house.within(0, 1, 1), 0);
    }

    private static void holes(String shop, int... due) {
        StencilHouse house = check.house(shop);
        for (int what = -3; what < 9; what++) {
            check.due("holes " + what + " of '" + shop + "'", house.holes(0, 0, what), what >= 0 && what < 5 ? due[what] : -1);
        }
        check.due("holes MIN", house.holes(0, 0, Integer.MIN_VALUE), -1);
        check.due("holes MAX", house.holes(0, 0, Integer.MAX_VALUE), -1);
    }

    private static void holesOfNothingAndAll() {
        holes("sheet;", 0, 0, 0, 0, 0);
        holes("size 1 1;sheet;", 0, 0, 0, 0, 0);
        holes("size 1 1;sheet 1;", 1, 1, 4, 1, 1);
        holes("sheet 7 7 7;", 1, 9, 12, 3, 3);
        holes("sheet 7 5 7;", 1, 9, 12, 3, 3);
        holes(FULL, 1, 25, 20, 5, 5);
        holes("size 5 1;sheet 31;", 1, 5, 12, 1, 5);
        holes("size 1 5;sheet 1 1 1 1 1;", 1, 5, 12, 5, 1);
    }

    // Joined: BESIDE one another, by others; not across, nor from a row's end to the next one's beginning.
    private static void holesJoined() {
        holes("sheet 1 2;", 2, 1, 8, 2, 1);
        holes("sheet 4 1;", 2, 1, 8, 2, 1);
        holes("sheet 2 1;", 2, 1, 8, 2, 1);
        holes("sheet 5 5 7;", 1, 7, 16, 5, 3);
        holes("sheet 7 4 7;", 1, 7, 16, 3, 3);
        holes("sheet 3 0 7;", 2, 3, 14, 2, 3);
        holes("sheet 7 0 3;", 2, 3, 14, 2, 3);
        holes("sheet 1 5 1;", 2, 3, 12, 4, 1);
        holes("size 5 5;sheet 16 1;", 2, 1, 8, 2, 1);
        holes("size 5 5;sheet 0 0 0 0 16;", 1, 1, 4, 1, 1);
        holes("size 5 5;sheet 21 10 21 10 21;", 5, 13, 36, 9, 5);
        holes("size 5 5;sheet 21 0 21 0 21;", 9, 1, 36, 9, 1);
        // A winding one.
        holes("size 5 5;sheet 31 16 31 1 31;", 1, 17, 36, 5, 5);
    }

    // How many times an OPEN CELL is BESIDE one that is not OPEN, or at the rim (for each side).
    private static void edges() {
        String[] shops = {"sheet 1;", "sheet 0 2;", "sheet 7;", "sheet 1 1 1;", "sheet 3 3;", "size 2 2;sheet 3 3;", "size 2 2;sheet 3 1;"};
        int[] due = {4, 4, 8, 8, 8, 8, 8};
        for (int i = 0; i < shops.length; i++) {
            check.due("EDGE of '" + shops[i] + "'", check.house(shops[i]).holes(0, 0, 2), due[i]);
        }
    }

    // How many rows of OPEN CELLS there are, left to right, as long as they go; the longest.
    private static void strokes() {
        String[] shops = {"size 5 1;sheet 21;", "size 5 1;sheet 27;", "size 5 1;sheet 29;", "size 5 1;sheet 23;", "size 5 2;sheet 16 1;",
            "size 5 2;sheet 24 3;", "size 5 3;sheet 31;", "size 5 2;sheet 0 15;"};
        int[] many = {3, 2, 2, 2, 2, 2, 1, 1};
        int[] longest = {1, 2, 3, 3, 1, 2, 5, 4};
        for (int i = 0; i < shops.length; i++) {
            StencilHouse house = check.house(shops[i]);
            check.due("STROKES of '" + shops[i] + "'", house.holes(0, 0, 3), many[i]);
            check.due("longest of '" + shops[i] + "'", house.holes(0, 0, 4), longest[i]);
        }
    }

    private static void sheets(String shop, int what, int due) {
        check.due("sheets " + what + " of '" + shop + "'", check.house(shop).sheets(0, what), due);
    }

    // CUT as before if they are flipped, if they are turned; what falls does not count.
    private static void mirrorsAndTurns() {
        sheets("", 0, 0);
        sheets("", 1, 0);
        String shop = "sheet;sheet 7 7 7;sheet 2;sheet 1 0 4;sheet 5 0 5;sheet 1;";
        sheets(shop, 0, 1 | 2 | 4 | 16);
        sheets(shop, 1, 1 | 2 | 8 | 16);
        sheets("size 1 3;sheet 1;sheet 1 0 1;", 0, 3);
        sheets("size 1 3;sheet 1;sheet 1 0 1;", 1, 2);
        sheets("size 4 1;sheet 6;sheet 9;sheet 3;sheet 5;", 0, 3);
        sheets("size 4 1;sheet 6;sheet 9;sheet 3;sheet 5;", 1, 3);
        sheets("size 1 1;" + "sheet 1;".repeat(6), 0, 63);
        sheets("size 1 1;" + "sheet 1;".repeat(6), 1, 63);
        sheets("size 5 5;sheet 16 0 0 0 1;sheet 17;", 0, 2);
        sheets("size 5 5;sheet 16 0 0 0 1;sheet 17;", 1, 1);
    }

    // Couples of SHEETS of which one is CUT as the other one, flipped, turned, both, or neither.
    private static void twins() {
        sheets("", 2, 0);
        sheets("sheet 1;", 2, 0);
        sheets("sheet 1;sheet 1;", 2, 1);
        sheets("sheet 1;sheet 4;", 2, 1);
        sheets("sheet 1;sheet 0 0 4;", 2, 1);
        sheets("sheet 1;sheet 0 0 1;", 2, 1);
        sheets("sheet 1;sheet 2;", 2, 0);
        sheets("sheet 1;sheet 0 1;", 2, 0);
        sheets("sheet 2;sheet 0 1;", 2, 0);
        sheets("sheet;".repeat(6), 2, 15);
        // As OPEN, but not as CUT.
        sheets("sheet 7 5 7;sheet 7 7 7;", 2, 0);
        sheets("sheet 1;sheet 1;sheet 2;sheet 2;", 2, 2);
    }

    // ALL: CELLS at which all SHEETS (there is one or more), NONE: at which none is OPEN.
    private static void allAndNone() {
        sheets("", 3, 0);
        sheets("", 4, 511);
        sheets("size 1 1;", 4, 1);
        sheets("size 5 5;", 4, FULL_CELLS);
        sheets("sheet;", 3, 0);
        sheets("sheet;", 4, 511);
        sheets("sheet 5;", 3, 5);
        sheets("sheet 5;", 4, 511 - 5);
        sheets("sheet 7 5 7;", 3, 511);
        sheets("sheet 7 5 7;", 4, 0);
        sheets(FULL, 3, FULL_CELLS);
        sheets(FULL, 4, 0);
        sheets("sheet 1;sheet 2;", 3, 0);
        sheets("sheet 3;sheet 6;", 3, 2);
        sheets("sheet 3;sheet 6;", 4, 511 - 7);
        sheets("sheet 3;sheet 7;sheet 7;sheet 7;sheet 7;sheet 6;", 3, 2);
    }

    // FALLING: SHEETS of which anything FALLS; NEED: SHEETS that alone are OPEN at any CELL.
    private static void fallingAndNeed() {
        sheets("", 5, 0);
        sheets("sheet 7 5 7;sheet 7 7 7;sheet;sheet 6 5 7;sheet 5 5 7;sheet 2 5 2;", 5, 1 | 8 | 32);
        sheets("", 6, 0);
        sheets("sheet;", 6, 0);
        sheets("sheet 1;", 6, 1);
        sheets("sheet 1;sheet 1;", 6, 0);
        sheets("sheet 1;sheet 3;", 6, 2);
        sheets("sheet 3;sheet 3;sheet;sheet 6;sheet 1;sheet 0 0 4;", 6, 8 | 32);
        sheets("sheet 7 5 7;sheet 0 2;", 6, 1);
    }

    // STACK: the CELL at which most SHEETS are OPEN, of several the least; how many.
    private static void stacks() {
        sheets("", 7, 0);
        sheets("", 8, 0);
        sheets("sheet;", 7, 0);
        sheets("sheet;", 8, 0);
        sheets("sheet 4;", 7, 2);
        sheets("sheet 4;", 8, 1);
        sheets("sheet 6;sheet 0 1;", 7, 1);
        sheets("sheet 6;sheet 0 1;", 8, 1);
        sheets("sheet 3;sheet 6;sheet 4;", 7, 1);
        sheets("sheet 3;sheet 6;sheet 4;", 8, 2);
        sheets("sheet 1;sheet 6;sheet 4;", 7, 2);
        sheets("size 5 5;" + "sheet 0 0 0 0 16;".repeat(6), 7, 24);
        sheets("size 5 5;" + "sheet 0 0 0 0 16;".repeat(6), 8, 6);
        sheets("sheet 7 5 7;sheet 0 2;", 7, 4);
        sheets("sheet 7 5 7;sheet 0 2;", 8, 2);
    }

    private static void nearly(String shop, int two, int unlike) {
        sheets(shop, 9, two);
        sheets(shop, 10, unlike);
    }

    // NEARLY: the two SHEETS of which UNLIKE is least, of several the least (none: none); how much (0 without two).
    private static void nearly() {
        nearly("", -1, 0);
        nearly("sheet 7 7 7;", -1, 0);
        nearly("sheet 7 7 7;sheet;", 1, 9);
        nearly(FULL + "sheet;", 1, 25);
        nearly("sheet 1;sheet 1;", 1, 0);
        nearly("sheet 7;sheet 3;sheet 3;", 12, 0);
        nearly("sheet 1;sheet 2;sheet 4;", 1, 2);
        nearly("sheet 7 7;sheet 1;sheet 0 3;sheet 4;", 13, 2);
        nearly("sheet 1;sheet 0 2 4;sheet 7 7 7;sheet 6 0 1;sheet 0 5 7;sheet 0 5 7;", 45, 0);
        nearly("sheet 7 7 7;sheet;sheet 7;sheet 0 0 7;sheet 0 7;sheet 0 3;", 45, 1);
        // As OPEN, but not as CUT.
        nearly("sheet 1;sheet 7 5 7;sheet 7 7 7;", 12, 0);
    }

    // HIDDEN: SHEETS that lie on top at no CELL, all being sprayed once, by numbers.
    private static void hidden() {
        sheets("", 11, 0);
        sheets("sheet;", 11, 1);
        sheets("sheet 1;", 11, 0);
        sheets("sheet 1;sheet 1;", 11, 1);
        sheets("sheet 3;sheet 1;", 11, 0);
        sheets("sheet 3;sheet 1;sheet 2;", 11, 1);
        sheets("sheet 1;".repeat(6), 11, 31);
        sheets(NESTED, 11, 31);
        sheets("sheet 0 2;sheet 7 5 7;", 11, 1);
    }

    // -2: there is none such, or for another what.
    private static void whatOfSheets() {
        StencilHouse house = check.house("sheet;");
        int[] due = {1, 1, 0, 0, 511, 0, 0, 0, 0, -1, 0, 1};
        for (int what = -20; what < 40; what++) {
            check.due("what " + what, house.sheets(0, what), what >= 0 && what < 12 ? due[what] : -2);
        }
        check.due("MIN", house.sheets(0, Integer.MIN_VALUE), -2);
        check.due("MAX", house.sheets(0, Integer.MAX_VALUE), -2);
    }

    // At how many CELLS just one of them is OPEN.
    private static void unlikes() {
        StencilHouse house = check.house(FULL + "sheet;sheet 31;sheet 31 17 17 17 31;sheet 0 14 10 14;sheet;");
        int[][] due = {{0, 25, 20, 0, 16, 25}, {25, 0, 5, 25, 9, 0}, {20, 5, 0, 20, 14, 5}, {0, 25, 20, 0, 16, 25},
            {16, 9, 14, 16, 0, 9}, {25, 0, 5, 25, 9, 0}};
        for (int a = 0; a < 6; a++) {
            for (int b = 0; b < 6; b++) {
                check.due("UNLIKE " + a + " " + b, house.unlike(0, a, b), due[a][b]);
            }
        }
    }

    // At how many CELLS it lies on top, all SHEETS being sprayed once, by numbers.
    private static void seens() {
        StencilHouse house = check.house(FULL + "sheet 31;sheet;sheet 0 14 10 14;sheet 1;sheet 1;");
        int[] due = {11, 4, 0, 9, 0, 1};
        for (int sheet = 0; sheet < 6; sheet++) {
            check.due("SEEN " + sheet, house.seen(0, sheet), due[sheet]);
        }
        check.due("all", check.house(FULL).seen(0, 0), 25);
        check.due("nothing", check.house("sheet;").seen(0, 0), 0);
    }

    private static void show(String shop, int most, int... row) {
        StencilHouse house = check.house(shop);
        check.due("SHOW of '" + shop + "'", house.show(0, -1), most);
        for (int k = 0; k < row.length; k++) {
            check.due(k + " of '" + shop + "'", house.show(0, k), row[k]);
        }
        int[] others = {row.length, 6, 7, -2, Integer.MIN_VALUE, Integer.MAX_VALUE};
        for (int k : others) {
            check.due("k " + k + " of '" + shop + "'", house.show(0, k), -1);
        }
    }

    // The most SHEETS that lie on top anywhere; the first such row by numbers; NONE: not so many.
    private static void shows() {
        show("", 0);
        show("sheet;", 0, 0);
        show("sheet;sheet;", 0, 0, 1);
        show("sheet 1;", 1, 0);
        show("sheet 1;sheet 1;", 1, 0, 1);
        show("sheet 1;sheet 3;", 2, 1, 0);
        show("sheet 3;sheet 1;", 2, 0, 1);
        show("sheet 1;sheet 2;sheet 3;", 2, 0, 2, 1);
        show("sheet 1;sheet 3;sheet;", 2, 1, 0, 2);
        show("sheet 1;sheet 2;sheet 4;sheet 0 1;sheet 0 2;sheet 0 4;", 6, 0, 1, 2, 3, 4, 5);
        // The last row by numbers alone.
        show(NESTED, 6, 5, 4, 3, 2, 1, 0);
        show("size 5 2;sheet 31 1;sheet 31;sheet 15;sheet 7;sheet 3;sheet 1;", 6, 0, 1, 2, 3, 4, 5);
        // What falls is OPEN.
        show("sheet 0 2;sheet 7 5 7;", 2, 1, 0);
        StencilHouse house = check.house("sheet 1;sheet 3;", "sheet;sheet;");
        check.due("before", house.show(0, 0), 1);
        check.due("another SHOP then", house.show(1, 0), 0);
        check.due("another SHOP then", house.show(1, 1), 1);
    }
}
