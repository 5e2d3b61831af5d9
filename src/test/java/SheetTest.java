/** Promises 10, 12 to 16, 21 to 25: figures of sheets of a shop as told. */
public final class SheetTest {
    private static final Check check = new Check();
    private static final String SHOP = "size 4 3;slip 5;sheet 7 5 7;sheet 8 8 8;sheet 0 6;wear 1 1;";
    private static final String FOUR_ISLANDS = "sheet 31 21 31 21 31;";
    private static final String THREE_ISLANDS = "sheet 31 21 31 29 31;";

    public static void main(String[] args) {
        bridges();
        coverAndAtOnce();
        duel();
        chance();
        within();
        holes();
        sheets();
        seenAndShow();
        check.finish();
    }

    private static void bridges() {
        StencilHouse house = check.house(SHOP, "size 5 5;" + FOUR_ISLANDS + THREE_ISLANDS);
        check.due("one", house.bridges(0, 0, false), 1);
        check.due("the least", house.bridges(0, 0, true), 2);
        check.due("nothing falls", house.bridges(0, 1, false), 0);
        check.due("nothing falls", house.bridges(0, 1, true), 0);
        check.due("by none of 3", house.bridges(1, 0, false), -1);
        check.due("by none of 3", house.bridges(1, 0, true), -1);
        check.due("three", house.bridges(1, 1, false), 3);
        check.due("the least three", house.bridges(1, 1, true), 2058);
        check.due("no sheet", house.bridges(0, 3, false), -1);
        check.due("no sheet", house.bridges(0, -1, true), -1);
        check.due("no shop", house.bridges(2, 0, false), -1);
    }

    private static void coverAndAtOnce() {
        StencilHouse house = check.house(SHOP, "");
        check.due("cover", house.cover(0, false), 2);
        check.due("cover which", house.cover(0, true), 3);
        check.due("cover without sheets", house.cover(1, false), 0);
        check.due("cover without sheets", house.cover(1, true), 0);
        check.due("cover no shop", house.cover(2, false), -1);
        check.due("atOnce", house.atOnce(0, false), 2);
        check.due("atOnce which", house.atOnce(0, true), 3);
        check.due("atOnce without sheets", house.atOnce(1, false), 0);
        check.due("atOnce without sheets", house.atOnce(1, true), 0);
        check.due("atOnce no shop", house.atOnce(-1, false), -1);
        Check.tell(house, 0, 1, "sheet 1;sheet;sheet 3;sheet 4;sheet 2;");
        check.due("cover least", house.cover(1, true), 4 | 8);
        check.due("atOnce with a sheet without holes", house.atOnce(1, true), 1 | 2 | 8 | 16);
    }

    private static void duel() {
        StencilHouse house = check.house(SHOP, "");
        int[] worth = {0, 9, 5};
        int[] first = {-1, 0, 0};
        for (int n = 0; n < 3; n++) {
            check.due("duel " + n, house.duel(0, n, false), worth[n]);
            check.due("duel first " + n, house.duel(0, n, true), first[n]);
        }
        check.due("without sheets", house.duel(1, 6, false), 0);
        check.due("without sheets", house.duel(1, 6, true), 6);
        check.due("n 7", house.duel(0, 7, false), -99);
        check.due("n -1", house.duel(0, -1, true), -99);
        check.due("no shop", house.duel(2, 1, false), -99);
        Check.tell(house, 0, 1, "sheet;sheet 7 7 7;sheet 1;");
        check.due("the last sprays the most", house.duel(1, 1, true), 1);
        check.due("what loses nothing first", house.duel(1, 2, true), 1);
        check.due("and its worth", house.duel(1, 2, false), 7);
        Check.tell(house, 0, 1, "sheet 1;sheet 3;");
        check.due("better over than under", house.duel(1, 3, true), 1);
        check.due("what is worth as much: the least", house.duel(1, 4, true), 1);
    }

    private static void chance() {
        StencilHouse house = check.house(SHOP, "slip 4;sheet 1;");
        int[][] due = {{1, 4}, {1, 4}, {1, 2}, {0, 1}, {0, 1}, {0, 1}, {0, 1}};
        for (int colour = 0; colour <= 6; colour++) {
            check.due("chance " + colour, house.chance(0, 3, colour, false), due[colour][0]);
            check.due("chance under " + colour, house.chance(0, 3, colour, true), due[colour][1]);
        }
        check.due("not slipped", house.chance(1, 0, 1, false), 3);
        check.due("not slipped", house.chance(1, 0, 1, true), 5);
        check.due("slipped", house.chance(1, 1, 1, false), 2);
        check.due("slipped", house.chance(1, 1, 1, true), 5);
        check.due("not into the next row", house.chance(0, 4, 2, false), 0);
        check.due("colour 7", house.chance(0, 0, 7, false), -1);
        check.due("colour -1", house.chance(0, 0, -1, true), -1);
        check.due("cell 12", house.chance(0, 12, 0, false), -1);
        check.due("cell -1", house.chance(0, -1, 0, true), -1);
        check.due("no shop", house.chance(2, 0, 0, false), -1);
        Check.tell(house, 0, 1, "");
        check.due("without sheets", house.chance(1, 0, 0, false), 1);
        check.due("without sheets", house.chance(1, 0, 0, true), 1);
    }

    private static void within() {
        StencilHouse house = check.house(SHOP, "sheet;sheet 7;");
        int[][] due = {{3, 3, 0}, {0, 3, 0}, {2, 2, 1}};
        for (int a = 0; a < 3; a++) {
            for (int b = 0; b < 3; b++) {
                check.due("within " + a + " " + b, house.within(0, a, b), due[a][b]);
            }
        }
        check.due("open nowhere", house.within(1, 0, 1), 0);
        check.due("cut off at the rim", house.within(1, 1, 1), 3);
        check.due("no sheet", house.within(0, 3, 0), -1);
        check.due("no sheet", house.within(0, 0, -1), -1);
        check.due("no shop", house.within(2, 0, 0), -1);
    }

    private static void holes() {
        StencilHouse house = check.house(SHOP, "sheet 1 2 4;sheet;sheet 5 2 5;");
        int[][] due = {{1, 9, 12, 3, 3}, {1, 3, 8, 3, 1}, {1, 2, 6, 1, 2}};
        int[][] more = {{3, 1, 12, 3, 1}, {0, 0, 0, 0, 0}, {5, 1, 20, 5, 1}};
        for (int sheet = 0; sheet < 3; sheet++) {
            for (int what = 0; what < 5; what++) {
                check.due("holes " + sheet + " " + what, house.holes(0, sheet, what), due[sheet][what]);
                check.due("more holes " + sheet + " " + what, house.holes(1, sheet, what), more[sheet][what]);
            }
        }
        check.due("what 5", house.holes(0, 0, 5), -1);
        check.due("what -1", house.holes(0, 0, -1), -1);
        check.due("no sheet", house.holes(0, 3, 0), -1);
        check.due("no shop", house.holes(2, 0, 0), -1);
    }

    private static void sheetsAre(String shop, int... due) {
        StencilHouse house = check.house(shop);
        for (int what = 0; what < 12; what++) {
            check.due("sheets " + what + " of '" + shop + "'", house.sheets(0, what), due[what]);
        }
    }

    private static void sheets() {
        sheetsAre(SHOP, 4, 4, 0, 0, 0, 1, 3, 5, 2, 12, 5, 0);
        sheetsAre("", 0, 0, 0, 0, 511, 0, 0, 0, 0, -1, 0, 0);
        sheetsAre("sheet 2;", 1, 0, 0, 2, 509, 0, 1, 1, 1, -1, 0, 0);
        // An island lies apart from a sheet that is cut there, but is as open.
        sheetsAre("sheet 7 7 7;sheet 7 5 7;", 3, 3, 0, 511, 0, 2, 0, 0, 2, 1, 0, 1);
        // Flipped, turned, both, and neither.
        sheetsAre("sheet 1;sheet 4;sheet 0 0 1;sheet 0 0 4;sheet 1;sheet 0 2;", 32, 32, 10, 0,
            511 & ~(1 | 4 | 64 | 256 | 16), 0, 2 | 4 | 8 | 32, 0, 2, 4, 0, 1);
        StencilHouse house = check.house(SHOP);
        check.due("what 12", house.sheets(0, 12), -2);
        check.due("what -1", house.sheets(0, -1), -2);
        check.due("no shop", house.sheets(1, 0), -2);
        check.due("unlike", house.unlike(0, 0, 1), 12);
        check.due("unlike", house.unlike(0, 2, 0), 7);
        check.due("unlike", house.unlike(0, 1, 2), 5);
        check.due("unlike itself", house.unlike(0, 1, 1), 0);
        check.due("no sheet", house.unlike(0, 3, 1), -1);
        check.due("no sheet", house.unlike(0, 1, -1), -1);
        check.due("no shop", house.unlike(1, 0, 0), -1);
    }

    private static void seenAndShow() {
        StencilHouse house = check.house(SHOP, "sheet 7;sheet 2;sheet 1;sheet 7;");
        int[] due = {7, 3, 2};
        int[] show = {3, 0, 1, 2};
        for (int sheet = 0; sheet < 3; sheet++) {
            check.due("seen " + sheet, house.seen(0, sheet), due[sheet]);
        }
        check.due("no sheet", house.seen(0, 3), -1);
        check.due("no sheet", house.seen(0, -1), -1);
        check.due("no shop", house.seen(2, 0), -1);
        for (int k = -1; k < 3; k++) {
            check.due("show " + k, house.show(0, k), show[k + 1]);
        }
        check.due("not so many", house.show(0, 3), -1);
        check.due("k -2", house.show(0, -2), -1);
        check.due("no shop", house.show(2, -1), -1);
        int[] more = {3, 0, 3, 1, 2};
        for (int k = -1; k < 4; k++) {
            check.due("show more " + k, house.show(1, k), more[k + 1]);
        }
        Check.tell(house, 0, 1, "");
        check.due("without sheets", house.show(1, -1), 0);
        check.due("without sheets", house.show(1, 0), -1);
    }
}
