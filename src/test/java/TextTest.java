/** Promises 1 to 7, 17, 18 (what is told), 30 to 32: the tape, texts, faults, images. */
public final class TextTest {
    private static final Check check = new Check();
    private static final String SHOP = "size 4 3;slip 5;sheet 7 5 7;sheet 8 8 8;sheet 0 6;wear 1 1;";

    public static void main(String[] args) {
        newObject();
        tape();
        numbersOfTexts();
        grammarFaults();
        shopFaults();
        otherFaults();
        shops();
        deeds();
        pictures();
        marks();
        images();
        check.finish();
    }

    private static void newObject() {
        StencilHouse house = new StencilHouse();
        check.due("NONE", StencilHouse.NONE, -1);
        for (int sort = 0; sort < 4; sort++) {
            check.due("new count", house.count(sort), 0);
        }
        check.due("count(-1)", house.count(-1), -2);
        check.due("count(4)", house.count(4), -2);
        check.due("fault(0)", house.fault(0), 0);
        check.due("fault(1)", house.fault(1), -1);
        check.due("fault(2)", house.fault(2), -1);
        check.due("end(0)", house.end(0), 0);
        check.due("end(1)", house.end(1), -1);
        check.due("shop(0, 0)", house.shop(0, 0), -1);
        check.due("deed(0, NONE, 0)", house.deed(0, -1, 0), -2);
        check.due("picture(0, 0, 0)", house.picture(0, 0, 0), -1);
        check.due("mark(0, NONE, 0)", house.mark(0, -1, 0), -2);
        check.due("again(0)", house.again(0), false);
    }

    private static void tape() {
        StencilHouse house = new StencilHouse();
        for (int i = 1; i <= 29; i++) {
            check.due("feed " + i, house.feed(0, 0, 0, 0, 0), 20 * i);
        }
        check.due("end(581)", house.end(581), -1);
        check.due("end(-1)", house.end(-1), -1);
        check.due("feed to 600", house.feed(0, 0, 0, 0, 0), 600);
        check.due("feed over 600", house.feed(0, 0, 0, 0, 0), -1);
        check.due("still 600", house.end(600), 600);
        check.due("end(581)", house.end(581), 581);
        check.due("feed to 601", house.feed(0, 0, 0, 0, 0), -1);
        check.due("still 581", house.end(581), 581);
        check.due("end(580)", house.end(580), 580);
        check.due("feed to 600 again", house.feed(0, 0, 0, 0, 0), 600);
    }

    private static void numbersOfTexts() {
        StencilHouse house = new StencilHouse();
        for (int sort = 0; sort < 4; sort++) {
            check.due("text in place of none", Check.tell(house, sort, 0, ""), -2);
            check.due("first text", Check.tell(house, sort, -1, ""), 0);
            check.due("text in place of a second", Check.tell(house, sort, 1, ""), -2);
            check.due("second text", Check.tell(house, sort, -1, "\n "), 1);
            check.due("third text", Check.tell(house, sort, -1, ""), -2);
            check.due("in place", Check.tell(house, sort, 1, ""), 1);
            check.due("in place of a third", Check.tell(house, sort, 2, ""), -2);
            check.due("at -2", Check.tell(house, sort, -2, ""), -2);
            check.due("count", house.count(sort), 2);
        }
        check.due("sort 4", Check.tell(house, 4, -1, "?"), -2);
        check.due("sort -1", Check.tell(house, -1, -1, "?"), -2);
        check.due("tape is taken", house.end(1), -1);
        check.due("fault", Check.tell(house, 0, 0, "?"), -1);
        check.due("fault(0)", house.fault(0), 1);
        check.due("no text read", Check.tell(house, 0, -1, "?"), -2);
        check.due("fault(0) then", house.fault(0), 0);
        check.due("fault(1) then", house.fault(1), -1);
    }

    private static void grammarFaults() {
        check.faulty(0, "", 0, -1);
        check.faulty(0, "size\n3 3 ;\nsheet;", 0, -1);
        check.faulty(0, "size3 3;slip0;", 0, -1);
        check.faulty(0, "size 3 3", 1, 8);
        check.faulty(0, "size 3 3  \n", 1, 11);
        check.faulty(0, "size 3 3;siz", 1, 9);
        check.faulty(0, "sizes 3 3;", 1, 0);
        check.faulty(0, "tize 3 3;", 1, 0);
        check.faulty(0, "size 3;", 1, 6);
        check.faulty(0, "size 3 3 3;", 1, 9);
        check.faulty(0, "size 123 3;", 1, 5);
        check.faulty(0, "size 3 003;", 1, 7);
        check.faulty(0, "sheet 1 2 ?;", 1, 10);
        check.faulty(0, "sheet 1 2 slip 1;", 1, 10);
        check.faulty(0, ";", 1, 0);
        check.faulty(0, " 3;", 1, 1);
        check.faulty(0, "Size 3 3;", 1, 0);
        check.faulty(0, "size\t3 3;", 1, 4);
        check.faulty(0, "slip 1;\u00e9", 1, 7);
        check.faulty(0, "spray 0 1;", 1, 0);
        check.faulty(0, "wear 1;", 1, 6);
        check.faulty(1, "size 3 3;", 1, 0);
        check.faulty(1, "flip;", 1, 4);
        check.faulty(1, "flip 0 0;", 1, 7);
        check.faulty(1, "slide 0 0;", 1, 9);
        check.faulty(1, "wash 1", 1, 6);
        check.faulty(2, "row", 1, 3);
        check.faulty(2, "row 1 2; top 1 1 1;", 1, 9);
        check.faulty(3, "bare 0;", 1, 6);
        check.faulty(3, "bare 0 0 0;", 1, 9);
        check.faulty(3, "top 0 0;", 1, 7);
        check.faulty(3, "row 0;", 1, 0);
        // Fault 1 goes before all others, wherever it is.
        check.faulty(0, "size 0 3; slip 11; x", 1, 19);
        check.faulty(0, "sheet;sheet;sheet;sheet;sheet;sheet;sheet 1", 1, 43);
    }

    private static void shopFaults() {
        check.faulty(0, "size 0 1;", 2, 5);
        check.faulty(0, "size 6 1;", 2, 5);
        check.faulty(0, "size 1 0;", 2, 7);
        check.faulty(0, "size 5 6;", 2, 7);
        check.faulty(0, "size 05 05;", 0, -1);
        check.faulty(0, "slip 10;", 0, -1);
        check.faulty(0, "slip 11;", 2, 5);
        check.faulty(0, "size 5 5;sheet 31 31;", 0, -1);
        check.faulty(0, "sheet 32;", 2, 6);
        check.faulty(0, "sheet 0 0 0 0 0;", 0, -1);
        check.faulty(0, "sheet 0 0 0 0 0 0;", 3, 16);
        check.faulty(0, "sheet 0 0 0 0 0 40;", 2, 16);
        check.faulty(0, "sheet 0 0 0 0 0 0 40;", 3, 16);
        check.faulty(0, "sheet 40 0 0 0 0 0;", 2, 6);
        check.faulty(0, "sheet;sheet;sheet;sheet;sheet;sheet;", 0, -1);
        check.faulty(0, "sheet;sheet;sheet;sheet;sheet;sheet; sheet 50;", 3, 37);
        check.faulty(0, "wear 0 1;", 4, 9);
        check.faulty(0, "wear 0 1;sheet; ", 0, -1);
        check.faulty(0, "wear 5 1;sheet; ", 4, 16);
        check.faulty(0, "sheet;wear 5 1;wear 0 1;", 4, 24);
        check.faulty(0, "wear 6 1;", 2, 5);
        check.faulty(0, "wear 0 0;", 2, 7);
        check.faulty(0, "wear 0 10;", 2, 7);
        check.faulty(0, "sheet;wear 0 9;", 0, -1);
        check.faulty(0, "sheet 8;", 5, 8);
        check.faulty(0, "sheet 8;wear 1 1;", 4, 17);
        check.faulty(0, "sheet 0 0 0 1;", 5, 14);
        check.faulty(0, "sheet 0 0 0 1;size 1 4;", 0, -1);
        check.faulty(0, "size 5 5;sheet 16;size 4 5;", 5, 27);
    }

    private static void otherFaults() {
        String[] bad = {"spray 6 1;", "spray 0 0;", "spray 0 10;", "flip 6;", "turn 6;", "slide 6 0 0;",
            "slide 0 5 0;", "slide 0 0 5;", "patch 6 0 0;", "patch 0 5 0;", "patch 0 0 5;", "wash 0;", "wash 10;"};
        int[] places = {6, 8, 8, 5, 5, 6, 8, 10, 6, 8, 10, 5, 5};
        for (int i = 0; i < bad.length; i++) {
            check.faulty(1, bad[i], 2, places[i]);
        }
        check.faulty(1, "spray 5 9;spray 0 1;flip 5;turn 5;slide 5 4 4;patch 5 4 4;wash 1;wash 9;", 0, -1);
        check.faulty(1, "flip 0;".repeat(40), 0, -1);
        check.faulty(1, "flip 0;".repeat(41), 3, 280);
        check.faulty(1, "flip 0;".repeat(40) + " wash 0;", 3, 281);
        check.faulty(1, "flip 0;".repeat(41) + "wash 0;wash 0 0", 1, 301);
        check.faulty(2, "row 0 1 2 3 9;row;row;row;row 9;", 0, -1);
        check.faulty(2, "row 10;", 2, 4);
        check.faulty(2, "row 0 0 0 0 0 0;", 3, 14);
        check.faulty(2, "row 0 0 0 0 0 10;", 2, 14);
        check.faulty(2, "row;row;row;row;row;row;", 3, 20);
        check.faulty(3, "top 4 4 5;bare 4 4;", 0, -1);
        check.faulty(3, "top 5 0 0;", 2, 4);
        check.faulty(3, "top 0 5 0;", 2, 6);
        check.faulty(3, "top 0 0 6;", 2, 8);
        check.faulty(3, "bare 5 0;", 2, 5);
        check.faulty(3, "bare 0 5;", 2, 7);
        check.faulty(3, "bare 0 0;".repeat(8), 0, -1);
        check.faulty(3, "bare 0 0;".repeat(8) + "top 0 0 0;", 3, 72);
    }

    private static void shops() {
        StencilHouse house = new StencilHouse();
        check.told(house, 0, "");
        check.due("W at first", house.shop(0, 0), 3);
        check.due("H at first", house.shop(0, 1), 3);
        check.due("SLIP at first", house.shop(0, 2), 0);
        check.due("no sheets", house.shop(0, 3), 0);
        check.due("no such shop", house.shop(1, 0), -1);
        check.due("no such shop", house.shop(-1, 0), -1);
        check.told(house, 0, SHOP);
        check.due("W", house.shop(1, 0), 4);
        check.due("H", house.shop(1, 1), 3);
        check.due("SLIP", house.shop(1, 2), 5);
        check.due("SHEETS", house.shop(1, 3), 3);
        check.due("CUT", house.shop(1, 10), 7 | 5 << 4 | 7 << 8);
        check.due("FALLING", house.shop(1, 20), 2 << 4);
        check.due("OPEN", house.shop(1, 30), 7 | 7 << 4 | 7 << 8);
        check.due("CUT", house.shop(1, 12), 6 << 4);
        check.due("none falls", house.shop(1, 21), 0);
        check.due("WEAR", house.shop(1, 40), 3);
        check.due("WEAR", house.shop(1, 41), 1);
        int[] others = {-1, 4, 9, 13, 19, 23, 33, 43, 46, 50, 110, Integer.MIN_VALUE, Integer.MAX_VALUE};
        for (int what : others) {
            check.due("shop what " + what, house.shop(1, what), -1);
        }
        check.due("in place", Check.tell(house, 0, 1, "size 1 1;slip 3;size 5 5;slip 4;wear 0 2;wear 0 7;"
            + "sheet 0 14 10 14;"), 1);
        check.due("later size", house.shop(1, 0), 5);
        check.due("later slip", house.shop(1, 2), 4);
        check.due("later wear", house.shop(1, 40), 7);
        check.due("further sheet", house.shop(1, 3), 1);
        check.due("island", house.shop(1, 20), 1 << 12);
        check.due("nothing of it stays", Check.tell(house, 0, 0, ""), 0);
        int[] first = {3, 3, 0, 0};
        for (int what = 0; what < 4; what++) {
            check.due("at first again " + what, house.shop(0, what), first[what]);
        }
        check.due("fault keeps", Check.tell(house, 0, 1, "size 1 1"), -1);
        check.due("as before", house.shop(1, 0), 5);
        check.due("other one as before", house.shop(0, 0), 3);
    }

    private static void deeds() {
        StencilHouse house = new StencilHouse();
        check.told(house, 1, "spray 5 9;flip 1;turn 2;slide 3 4 0;patch 4 1 2;wash 7;");
        int[][] due = {{0, 5, 9, -1}, {1, 1, -1, -1}, {2, 2, -1, -1}, {3, 3, 4, 0}, {4, 4, 1, 2}, {5, 7, -1, -1}};
        check.due("how many", house.deed(0, -1, 0), 6);
        check.due("k NONE, what 1", house.deed(0, -1, 1), -2);
        for (int k = 0; k < 6; k++) {
            for (int what = 0; what < 4; what++) {
                check.due("deed " + k + " " + what, house.deed(0, k, what), due[k][what]);
            }
            check.due("deed what 4", house.deed(0, k, 4), -2);
            check.due("deed what -1", house.deed(0, k, -1), -2);
        }
        check.due("no deed", house.deed(0, 6, 0), -2);
        check.due("no deed", house.deed(0, -2, 0), -2);
        check.due("no day", house.deed(1, -1, 0), -2);
        check.due("no day", house.deed(-1, 0, 0), -2);
        check.due("in place", Check.tell(house, 1, 0, "wash 1;"), 0);
        check.due("how many now", house.deed(0, -1, 0), 1);
        check.due("gone", house.deed(0, 1, 0), -2);
    }

    private static void pictures() {
        StencilHouse house = new StencilHouse();
        check.told(house, 2, "row 1 2 3 4 5;row;row 9 8;");
        check.due("at 0 0", house.picture(0, 0, 0), 1);
        check.due("at 4 0", house.picture(0, 4, 0), 5);
        check.due("at 0 1", house.picture(0, 0, 1), 0);
        check.due("at 1 2", house.picture(0, 1, 2), 8);
        check.due("at 4 4", house.picture(0, 4, 4), 0);
        check.due("at 5 0", house.picture(0, 5, 0), -1);
        check.due("at 0 5", house.picture(0, 0, 5), -1);
        check.due("at -1 0", house.picture(0, -1, 0), -1);
        check.due("at 0 -1", house.picture(0, 0, -1), -1);
        check.due("no picture", house.picture(1, 0, 0), -1);
        check.due("in place", Check.tell(house, 2, 0, "row 0 7;"), 0);
        check.due("now 0 0", house.picture(0, 0, 0), 0);
        check.due("now 1 0", house.picture(0, 1, 0), 7);
        check.due("now 0 2", house.picture(0, 0, 2), 0);
        check.due("full", Check.tell(house, 2, 0, "row 1 1 1 1 1;row 1 1 1 1 1;row 1 1 1 1 1;row 1 1 1 1 1;row 1 1 1 1 1;"), 0);
        check.due("bare", Check.tell(house, 2, 0, "row;"), 0);
        for (int place = 0; place < 25; place++) {
            check.due("bare at " + place, house.picture(0, place % 5, place / 5), 0);
        }
    }

    private static void marks() {
        StencilHouse house = new StencilHouse();
        check.told(house, 3, "top 1 2 5;bare 4 3;");
        int[][] due = {{0, 1, 2, 5}, {1, 4, 3, -1}};
        check.due("how many", house.mark(0, -1, 0), 2);
        check.due("k NONE, what 1", house.mark(0, -1, 1), -2);
        for (int k = 0; k < 2; k++) {
            for (int what = 0; what < 4; what++) {
                check.due("mark " + k + " " + what, house.mark(0, k, what), due[k][what]);
            }
            check.due("mark what 4", house.mark(0, k, 4), -2);
            check.due("mark what -1", house.mark(0, k, -1), -2);
        }
        check.due("no mark", house.mark(0, 2, 0), -2);
        check.due("no mark", house.mark(0, -2, 0), -2);
        check.due("no marks", house.mark(1, -1, 0), -2);
    }

    private static void images() {
        StencilHouse house = new StencilHouse();
        check.due("image(-1)", house.image(-1), false);
        check.due("image(3)", house.image(3), false);
        check.due("image(0)", house.image(0), true);
        check.told(house, 0, SHOP);
        check.told(house, 1, "wash 1;");
        check.told(house, 2, "row 3;");
        check.told(house, 3, "bare 1 1;");
        check.due("fault", Check.tell(house, 0, 0, "size 1 9;"), -1);
        Check.tape(house, "row 12345");
        check.due("image(2)", house.image(2), true);
        check.due("again(1)", house.again(1), false);
        check.due("again(3)", house.again(3), false);
        check.due("again(-1)", house.again(-1), false);
        check.due("again(0)", house.again(0), true);
        for (int sort = 0; sort < 4; sort++) {
            check.due("count at image 0", house.count(sort), 0);
        }
        check.due("fault at image 0", house.fault(0), 0);
        check.due("tape at image 0", house.end(1), -1);
        check.told(house, 0, "size 1 1;");
        check.told(house, 1, "");
        check.told(house, 2, "");
        check.told(house, 3, "");
        for (int round = 0; round < 2; round++) {
            check.due("again(2)", house.again(2), true);
            check.due("fault at image 2", house.fault(0), 2);
            check.due("place at image 2", house.fault(1), 7);
            check.due("shop at image 2", house.shop(0, 0), 4);
            check.due("open at image 2", house.shop(0, 30), 7 | 7 << 4 | 7 << 8);
            check.due("deeds at image 2", house.deed(0, -1, 0), 1);
            check.due("picture at image 2", house.picture(0, 0, 0), 3);
            check.due("marks at image 2", house.mark(0, -1, 0), 1);
            check.due("tape at image 2", house.end(10), -1);
            check.due("tape's text at image 2", house.text(2, 0), -1);
            check.due("tape's fault", house.fault(1), 4);
            check.due("in place", Check.tell(house, 0, 0, "size 2 2;"), 0);
            check.due("further", Check.tell(house, 3, -1, ""), 1);
        }
        check.due("image anew", house.image(2), true);
        check.told(house, 0, "");
        check.due("again(2)", house.again(2), true);
        check.due("shops at the new image", house.count(0), 1);
        check.due("its shop", house.shop(0, 0), 2);
    }
}
