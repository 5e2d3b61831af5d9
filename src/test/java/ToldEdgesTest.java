/** The edges that the document names of promises 4 to 7, 17, 18: what is told, its limits, and faults 2 to 5. */
public final class ToldEdgesTest {
    private static final Check check = new Check();
    private static final int[] OUTSIDE = {-1, -2, 2, 3, 100, Integer.MIN_VALUE, Integer.MAX_VALUE};

    public static void main(String[] args) {
        sizes();
        slips();
        wears();
        cutRows();
        sheetsAreSix();
        numbersOfDeeds();
        deedsAreForty();
        numbersOfRows();
        rowsAreFive();
        numbersOfMarks();
        marksAreEight();
        faultsByPlace();
        faultsOfOnePlace();
        faultyLinesTellAllTheSame();
        faultsAtTheEnd();
        laterOnesStrike();
        laterOnesAreFurther();
        shopsOfNothing();
        shopsOfSixSheets();
        deedsAsTold();
        fortyDeedsAsTold();
        picturesAsTold();
        marksAsTold();
        nothingStaysInPlace();
        check.finish();
    }

    private static boolean isWithin(int least, int number, int greatest) {
        return number >= least && number <= greatest;
    }

    // A number of a line, from 0 to 99, and the two that can't be beside the limits.
    private static void limits(int sort, String before, String behind, int least, int greatest) {
        for (int number = 0; number < 100; number++) {
            boolean can = isWithin(least, number, greatest);
            check.faulty(sort, before + number + behind, can ? 0 : 2, can ? -1 : before.length());
        }
    }

    // W columns, H rows, 1 .. 5.
    private static void sizes() {
        limits(0, "size ", " 1;", 1, 5);
        limits(0, "size 1 ", ";", 1, 5);
        for (int w = 1; w <= 5; w++) {
            for (int h = 1; h <= 5; h++) {
                StencilHouse house = check.house("size " + w + " " + h + ";");
                check.due("W", house.shop(0, 0), w);
                check.due("H", house.shop(0, 1), h);
            }
        }
    }

    // SLIP, 0 .. 10.
    private static void slips() {
        limits(0, "slip ", ";", 0, 10);
        check.due("SLIP 0", check.house("slip 0;").shop(0, 2), 0);
        check.due("SLIP 10", check.house("slip 10;").shop(0, 2), 10);
    }

    // WEAR, 1 .. 9, of a SHEET, 0 .. 5.
    private static void wears() {
        String six = "sheet;".repeat(6);
        limits(0, six + "wear ", " 1;", 0, 5);
        limits(0, six + "wear 5 ", ";", 1, 9);
        StencilHouse house = check.house("wear 0 1;wear 5 9;" + six);
        int[] wear = {1, 3, 3, 3, 3, 9};
        for (int sheet = 0; sheet < 6; sheet++) {
            check.due("WEAR " + sheet, house.shop(0, 40 + sheet), wear[sheet]);
        }
    }

    // CUT CELLS, 0 .. 31, column x by bit x; a row each, from the first on, 5 at most.
    private static void cutRows() {
        limits(0, "size 5 5;sheet ", ";", 0, 31);
        limits(0, "size 5 5;sheet 0 0 0 0 ", ";", 0, 31);
        StencilHouse house = check.house("size 5 5;sheet 1 2 4 8 16;sheet 31 31 31 31 31;sheet 0 0 0 0 0;sheet;sheet 16;");
        int[] cut = {1 | 1 << 6 | 1 << 12 | 1 << 18 | 1 << 24, (1 << 25) - 1, 0, 0, 16};
        for (int sheet = 0; sheet < 5; sheet++) {
            check.due("CUT " + sheet, house.shop(0, 10 + sheet), cut[sheet]);
        }
        check.faulty(0, "size 5 5;sheet 0 0 0 0 0 0;", 3, 25);
        check.faulty(0, "size 5 5;sheet 0 0 0 0 0 31;", 3, 25);
        check.faulty(0, "size 5 5;sheet 0 0 0 0 0 32;", 2, 25);
        check.faulty(0, "size 5 5;sheet 0 0 0 0 0 0 0 0 32;", 3, 25);
    }

    // SHEETS, at most 6: fault 3 at the first token of a 7th.
    private static void sheetsAreSix() {
        for (int many = 0; many <= 9; many++) {
            check.faulty(0, "sheet;".repeat(many), many <= 6 ? 0 : 3, many <= 6 ? -1 : 36);
        }
        check.due("none", check.house("").shop(0, 3), 0);
        check.due("six", check.house("sheet;".repeat(6)).shop(0, 3), 6);
        check.faulty(0, "sheet;".repeat(6) + "\n sheet 32;", 3, 38);
        check.faulty(0, "sheet;".repeat(6) + "slip 11;sheet;", 2, 41);
        check.faulty(0, "sheet;".repeat(7) + "slip 11;", 3, 36);
    }

    // A SHEET, 0 .. 5, a colour, 1 .. 9, a column, a row, 0 .. 4.
    private static void numbersOfDeeds() {
        limits(1, "spray ", " 1;", 0, 5);
        limits(1, "spray 0 ", ";", 1, 9);
        limits(1, "flip ", ";", 0, 5);
        limits(1, "turn ", ";", 0, 5);
        String[] words = {"slide", "patch"};
        for (String word : words) {
            limits(1, word + " ", " 0 0;", 0, 5);
            limits(1, word + " 0 ", " 0;", 0, 4);
            limits(1, word + " 0 0 ", ";", 0, 4);
        }
        limits(1, "wash ", ";", 1, 9);
    }

    // DEEDS, at most 40: fault 3 at the first token of a 41st, of each kind.
    private static void deedsAreForty() {
        String[] lines = {"spray 0 1;", "flip 0;", "turn 0;", "slide 0 0 0;", "patch 0 0 0;", "wash 1;"};
        for (String line : lines) {
            check.faulty(1, "flip 0;".repeat(39) + line, 0, -1);
            check.faulty(1, "flip 0;".repeat(40) + line, 3, 280);
            check.faulty(1, "flip 0;".repeat(41) + line, 3, 280);
        }
        check.faulty(1, "wash 1;".repeat(40) + " wash 10;", 3, 281);
        check.faulty(1, "wash 1;".repeat(39) + "wash 10;wash 1;", 2, 278);
    }

    // Colours, 0 .. 9, 5 at most.
    private static void numbersOfRows() {
        limits(2, "row ", ";", 0, 9);
        limits(2, "row 1 1 1 1 ", ";", 0, 9);
        check.faulty(2, "row 9 9 9 9 9;", 0, -1);
        check.faulty(2, "row 9 9 9 9 9 0;", 3, 14);
        check.faulty(2, "row 9 9 9 9 9 9 9;", 3, 14);
        check.faulty(2, "row 9 9 9 9 9 10;", 2, 14);
        check.faulty(2, "row 9 9 9 9 10 9;", 2, 12);
    }

    // 5 rows at most: fault 3 at the first token of a 6th.
    private static void rowsAreFive() {
        for (int many = 0; many <= 8; many++) {
            check.faulty(2, "row;".repeat(many), many <= 5 ? 0 : 3, many <= 5 ? -1 : 20);
        }
        check.faulty(2, "row;".repeat(5) + " row 10;", 3, 21);
        check.faulty(2, "row;".repeat(4) + "row 10;row;", 2, 20);
    }

    // A column and a row, 0 .. 4 each, a SHEET, 0 .. 5.
    private static void numbersOfMarks() {
        limits(3, "top ", " 0 0;", 0, 4);
        limits(3, "top 0 ", " 0;", 0, 4);
        limits(3, "top 0 0 ", ";", 0, 5);
        limits(3, "bare ", " 0;", 0, 4);
        limits(3, "bare 0 ", ";", 0, 4);
    }

    // MARKS, at most 8: fault 3 at the first token of a 9th.
    private static void marksAreEight() {
        for (int many = 0; many <= 10; many++) {
            check.faulty(3, "bare 0 0;".repeat(many), many <= 8 ? 0 : 3, many <= 8 ? -1 : 72);
            check.faulty(3, "top 0 0 0;".repeat(many), many <= 8 ? 0 : 3, many <= 8 ? -1 : 80);
        }
        check.faulty(3, "bare 0 0;".repeat(8) + "\ntop 5 0 0;", 3, 73);
        check.faulty(3, "bare 0 0;".repeat(7) + "top 5 0 0;bare 0 0;", 2, 67);
    }

    // The first by place.
    private static void faultsByPlace() {
        check.faulty(0, "size 9 9;", 2, 5);
        check.faulty(0, "slip 11;size 9 9;", 2, 5);
        check.faulty(0, "wear 9 99;", 2, 5);
        check.faulty(0, "wear 0 99;slip 11;", 2, 7);
        check.faulty(0, "sheet 0 32 33;", 2, 8);
        check.faulty(0, "sheet 0 0 0 0 0 0;slip 11;", 3, 16);
        check.faulty(0, "slip 11;sheet 0 0 0 0 0 0;", 2, 5);
        check.faulty(1, "slide 6 5 5;", 2, 6);
        check.faulty(1, "slide 0 5 5;", 2, 8);
        check.faulty(3, "top 5 5 6;", 2, 4);
        // Fault 1 goes before all that are nearer the beginning.
        check.faulty(0, "slip 11;sheet 0 0 0 0 0 0;" + "sheet;".repeat(7) + "wear 9 9;x", 1, 77);
        check.faulty(2, "row 10 1 1 1 1 1;" + "row;".repeat(7) + "row", 1, 48);
    }

    // Of one place the least: a 6th NUMBER that can't be is fault 2.
    private static void faultsOfOnePlace() {
        check.faulty(0, "sheet 1 1 1 1 1 31;", 3, 16);
        check.faulty(0, "sheet 1 1 1 1 1 32;", 2, 16);
        check.faulty(0, "sheet;".repeat(6) + "sheet 1 1 1 1 1 32;", 3, 36);
        check.faulty(2, "row;".repeat(5) + "row 1 1 1 1 1 10;", 3, 20);
        check.faulty(2, "row 1 1 1 1 1 99;", 2, 14);
    }

    // A line with a NUMBER that can't be tells its SHEET, DEED, row, MARK all the same.
    private static void faultyLinesTellAllTheSame() {
        check.faulty(0, "sheet 32;" + "sheet;".repeat(6), 2, 6);
        check.faulty(0, "sheet 32;wear 1 1;", 2, 6);
        check.faulty(0, "sheet;wear 1 10;", 2, 13);
        check.faulty(1, "wash 0;" + "wash 1;".repeat(40), 2, 5);
        check.faulty(2, "row 10;" + "row;".repeat(5), 2, 4);
        check.faulty(3, "bare 5 0;" + "bare 0 0;".repeat(8), 2, 5);
    }

    // If there is none of these, at the end's place, of a SHOP: 4, else 5.
    private static void faultsAtTheEnd() {
        for (int sheets = 0; sheets <= 6; sheets++) {
            for (int sheet = 0; sheet < 6; sheet++) {
                String text = "sheet;".repeat(sheets) + "wear " + sheet + " 3; ";
                check.faulty(0, text, sheet < sheets ? 0 : 4, sheet < sheets ? -1 : text.length());
            }
        }
        check.faulty(0, "wear 1 1;sheet;sheet;", 0, -1);
        check.faulty(0, "wear 1 1;wear 0 1;sheet;", 4, 24);
        check.faulty(0, "sheet 8;wear 1 1;", 4, 17);
        check.faulty(0, "sheet 8;wear 0 1;", 5, 17);
        check.faulty(0, "sheet 8;wear 1 1;slip 11;", 2, 22);
        check.faulty(0, "sheet 7 7 7;", 0, -1);
        check.faulty(0, "sheet 7 7 7 0 0;", 0, -1);
        check.faulty(0, "sheet 7 7 7 1;", 5, 14);
        check.faulty(0, "sheet 7 7 7 0 16;\n", 5, 18);
        check.faulty(0, "sheet;sheet;sheet 0 0 8;", 5, 24);
        for (int side = 1; side <= 5; side++) {
            int last = 1 << side - 1;
            String text = "size " + side + " " + side + ";sheet" + " 0".repeat(side - 1) + " ";
            check.faulty(0, text + last + ";", 0, -1);
            if (side < 5) {
                check.faulty(0, text + 2 * last + ";", 5, text.length() + (2 * last > 9 ? 3 : 2));
                check.faulty(0, text + "0 1;", 5, text.length() + 4);
            }
        }
        // The later size counts for all SHEETS.
        check.faulty(0, "size 1 1;sheet 31 31 31 31 31;size 5 5;", 0, -1);
        check.faulty(0, "size 5 5;sheet 31 31 31 31 31;size 5 4;", 5, 39);
        check.faulty(0, "size 5 5;sheet 31 31 31 31 31;size 4 5;", 5, 39);
    }

    // Later ones strike (size, slip, wear of a SHEET).
    private static void laterOnesStrike() {
        StencilHouse house = check.house("size 5 5;size 4 2;slip 10;slip 0;slip 3;wear 1 9;wear 0 2;wear 1 1;sheet 8;sheet 1;");
        check.due("W", house.shop(0, 0), 4);
        check.due("H", house.shop(0, 1), 2);
        check.due("SLIP", house.shop(0, 2), 3);
        check.due("WEAR 0", house.shop(0, 40), 2);
        check.due("WEAR 1", house.shop(0, 41), 1);
        // One that can't be is a fault, struck or not.
        check.faulty(0, "slip 11;slip 1;", 2, 5);
        check.faulty(0, "wear 5 1;wear 0 1;sheet;", 4, 24);
    }

    // But all others, which are further ones.
    private static void laterOnesAreFurther() {
        StencilHouse house = check.house("sheet 1;sheet 1;sheet 2;");
        check.due("SHEETS", house.shop(0, 3), 3);
        check.told(house, 1, "wash 1;wash 1;wash 1;");
        check.due("DEEDS", house.deed(0, -1, 0), 3);
        check.told(house, 2, "row 1;row 1;");
        check.due("row 0", house.picture(0, 0, 0), 1);
        check.due("row 1", house.picture(0, 0, 1), 1);
        check.told(house, 3, "bare 0 0;bare 0 0;top 0 0 0;");
        check.due("MARKS", house.mark(0, -1, 0), 3);
    }

    // 3 and 3 at first, SLIP 0 at first; NONE: there is none such (of either), or for another what.
    private static void shopsOfNothing() {
        StencilHouse house = check.house("", "slip 1;");
        int[] due = {3, 3, 0, 0};
        for (int what = -60; what < 160; what++) {
            check.due("what " + what, house.shop(0, what), what >= 0 && what < 4 ? due[what] : -1);
        }
        for (int shop : OUTSIDE) {
            check.due("shop " + shop, house.shop(shop, 0), -1);
            check.due("what " + shop, house.shop(0, shop < 2 || shop > 3 ? shop : 4), -1);
        }
    }

    private static void shopsOfSixSheets() {
        // A ring about CELL 4, the ring without each CELL beside it and without a corner, all of it.
        StencilHouse house = check.house("sheet 7 5 7;sheet 5 5 7;sheet 7 4 7;sheet 6 5 7;sheet 7 7 7;sheet;wear 0 1;wear 5 9;");
        int[] cut = {495, 493, 487, 494, 511, 0};
        int[] falls = {16, 0, 0, 16, 0, 0};
        int[] wear = {1, 3, 3, 3, 3, 9};
        for (int what = -60; what < 160; what++) {
            int s = Math.floorMod(what, 10);
            int due = -1;
            if (what >= 10 && what < 50 && s < 6) {
                int[] all = {cut[s], falls[s], cut[s] | falls[s], wear[s]};
                due = all[what / 10 - 1];
            } else if (what >= 0 && what < 4) {
                int[] all = {3, 3, 0, 6};
                due = all[what];
            }
            check.due("what " + what, house.shop(0, what), due);
        }
        check.due("MIN", house.shop(0, Integer.MIN_VALUE), -1);
        check.due("MAX", house.shop(0, Integer.MAX_VALUE), -1);
    }

    // Its numbers (NONE without); -2: there is none such (of either), or for another what.
    private static void deedsAsTold() {
        StencilHouse house = new StencilHouse();
        check.told(house, 1, "wash 9;patch 0 4 3;slide 5 0 4;turn 0;flip 5;spray 0 1;");
        check.told(house, 1, "");
        int[][] due = {{5, 9, -1, -1}, {4, 0, 4, 3}, {3, 5, 0, 4}, {2, 0, -1, -1}, {1, 5, -1, -1}, {0, 0, 1, -1}};
        for (int k = -3; k < 44; k++) {
            for (int what = -3; what < 8; what++) {
                boolean is = k >= 0 && k < 6 && what >= 0 && what < 4;
                int all = k == -1 && what == 0 ? 6 : -2;
                check.due("DEED " + k + " " + what, house.deed(0, k, what), is ? due[k][what] : all);
                check.due("none " + k + " " + what, house.deed(1, k, what), k == -1 && what == 0 ? 0 : -2);
                check.due("no DAY " + k + " " + what, house.deed(2, k, what), -2);
                check.due("no DAY " + k + " " + what, house.deed(-1, k, what), -2);
            }
        }
        for (int number : OUTSIDE) {
            check.due("DAY " + number, house.deed(number, -1, 0), -2);
            check.due("what " + number, house.deed(0, 6, number), -2);
            check.due("k MAX", house.deed(0, Integer.MAX_VALUE, 0), -2);
            check.due("k MIN", house.deed(0, Integer.MIN_VALUE, 0), -2);
        }
    }

    private static void fortyDeedsAsTold() {
        StencilHouse house = new StencilHouse();
        check.told(house, 1, "flip 3;".repeat(39) + "slide 5 4 2;");
        check.due("how many", house.deed(0, -1, 0), 40);
        check.due("last but one", house.deed(0, 38, 1), 3);
        int[] last = {3, 5, 4, 2};
        for (int what = 0; what < 4; what++) {
            check.due("last " + what, house.deed(0, 39, what), last[what]);
        }
        check.due("one more", house.deed(0, 40, 0), -2);
    }

    // A colour, 0 .. 9, at each of 5 rows of 5 (0 at first); NONE: there is none such (of any).
    private static void picturesAsTold() {
        StencilHouse house = new StencilHouse();
        check.told(house, 2, "row 1 2 3 4 5;row;row 9;row 0 0 0 0 8;row 6 7 8 9 1;");
        check.told(house, 2, "");
        int[][] due = {{1, 2, 3, 4, 5}, {0, 0, 0, 0, 0}, {9, 0, 0, 0, 0}, {0, 0, 0, 0, 8}, {6, 7, 8, 9, 1}};
        for (int y = -3; y < 8; y++) {
            for (int x = -3; x < 8; x++) {
                boolean is = x >= 0 && x < 5 && y >= 0 && y < 5;
                check.due("at " + x + " " + y, house.picture(0, x, y), is ? due[y][x] : -1);
                check.due("empty at " + x + " " + y, house.picture(1, x, y), is ? 0 : -1);
                check.due("none at " + x + " " + y, house.picture(2, x, y), -1);
                check.due("none at " + x + " " + y, house.picture(-1, x, y), -1);
            }
        }
        check.due("far", house.picture(0, Integer.MAX_VALUE, 0), -1);
        check.due("far", house.picture(0, 0, Integer.MIN_VALUE), -1);
    }

    // 0 top, 1 bare, the column, the row, the SHEET (NONE); -2: there is none such (of either), or for another what.
    private static void marksAsTold() {
        StencilHouse house = new StencilHouse();
        check.told(house, 3, "bare 4 0;top 0 4 5;top 4 4 0;bare 0 0;bare 1 2;top 1 2 3;top 2 1 4;top 0 0 0;");
        check.told(house, 3, "");
        int[][] due = {{1, 4, 0, -1}, {0, 0, 4, 5}, {0, 4, 4, 0}, {1, 0, 0, -1}, {1, 1, 2, -1}, {0, 1, 2, 3}, {0, 2, 1, 4},
            {0, 0, 0, 0}};
        for (int k = -3; k < 12; k++) {
            for (int what = -3; what < 8; what++) {
                boolean is = k >= 0 && k < 8 && what >= 0 && what < 4;
                int all = k == -1 && what == 0 ? 8 : -2;
                check.due("MARK " + k + " " + what, house.mark(0, k, what), is ? due[k][what] : all);
                check.due("none " + k + " " + what, house.mark(1, k, what), k == -1 && what == 0 ? 0 : -2);
                check.due("no MARKS " + k + " " + what, house.mark(2, k, what), -2);
                check.due("no MARKS " + k + " " + what, house.mark(-1, k, what), -2);
            }
        }
        check.due("k MAX", house.mark(0, Integer.MAX_VALUE, 0), -2);
        check.due("k MIN", house.mark(0, Integer.MIN_VALUE, 0), -2);
    }

    // In the place of one: nothing of what was there before is left.
    private static void nothingStaysInPlace() {
        StencilHouse house = check.house("size 5 5;slip 10;sheet 31 31 31 31 31;sheet 1;wear 0 9;wear 1 1;");
        check.due("SHOP", Check.tell(house, 0, 0, "sheet;"), 0);
        int[] due = {3, 3, 0, 1};
        for (int what = 0; what < 4; what++) {
            check.due("SHOP " + what, house.shop(0, what), due[what]);
        }
        check.due("CUT", house.shop(0, 10), 0);
        check.due("OPEN", house.shop(0, 30), 0);
        check.due("WEAR", house.shop(0, 40), 3);
        check.due("SHEET 1", house.shop(0, 11), -1);
        check.told(house, 1, "wash 1;wash 2;wash 3;");
        check.due("DAY", Check.tell(house, 1, 0, "flip 1;"), 0);
        check.due("DEEDS", house.deed(0, -1, 0), 1);
        check.due("DEED", house.deed(0, 0, 2), -1);
        check.told(house, 2, "row 1 1 1 1 1;row 1 1 1 1 1;");
        check.due("PICTURE", Check.tell(house, 2, 0, "row 2;"), 0);
        check.due("colour", house.picture(0, 0, 0), 2);
        check.due("colour", house.picture(0, 1, 0), 0);
        check.due("colour", house.picture(0, 0, 1), 0);
        check.told(house, 3, "top 0 0 0;top 1 1 1;top 2 2 2;");
        check.due("MARKS", Check.tell(house, 3, 0, "bare 1 1;"), 0);
        check.due("how many", house.mark(0, -1, 0), 1);
        check.due("MARK", house.mark(0, 0, 3), -1);
        check.due("MARKS", Check.tell(house, 3, 0, ""), 0);
        check.due("how many", house.mark(0, -1, 0), 0);
    }
}
