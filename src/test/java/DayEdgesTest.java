/** The edges that the document names of promises 8, 9, 20, 29: what is held, days, states, drawn days. */
public final class DayEdgesTest {
    private static final Check check = new Check();
    private static final String RING = "sheet 7 5 7;";
    private static final int ALL = 511;
    // The CUT CELLS of a SHEET of one row of three, flipped.
    private static final int[] FLIPPED = {0, 4, 2, 6, 1, 5, 3, 7};

    public static void main(String[] args) {
        heldAtTheRim();
        heldByOneBeside();
        heldAlongAChain();
        noSuchShopOrDay();
        noSuchSheet();
        sprayedAsOftenAsWear();
        openAndSprayed();
        flippedAndTurned();
        slidBeyond();
        slidAsItWas();
        patched();
        patchedByWhatIsCutNow();
        washed();
        stopsAtTheFirst();
        fullDay();
        dayBeginsAsTold();
        statesUpToStop();
        whatOfAState();
        firstOver();
        busy();
        overAndWashed();
        left();
        torn();
        afterUpToStop();
        drawnKinds();
        drawnShiftsWithoutSign();
        drawnIfItMay();
        drawnTimes();
        drawnWithoutSheets();
        check.finish();
    }

    private static StencilHouse house(String shop, String day) {
        StencilHouse house = check.house(shop);
        check.told(house, 1, day);
        return house;
    }

    private static void falls(String shop, int due) {
        check.due("FALLING of '" + shop + "'", check.house(shop).shop(0, 20), due);
    }

    // All CELLS that are not CUT, and at the rim of W and H, are HELD.
    private static void heldAtTheRim() {
        falls("size 1 1;sheet 0;", 0);
        falls("size 1 1;sheet 1;", 0);
        falls("size 2 5;sheet 1 2 1 2 1;", 0);
        falls("size 5 2;sheet 21 10;", 0);
        falls("size 1 5;sheet 1 0 1 0 1;", 0);
        falls("size 5 1;sheet 10;", 0);
        falls("size 3 3;sheet 2 5 2;", 16);
        falls("size 3 3;sheet 0 5 0;", 0);
        falls("size 5 5;sheet 31 31 31 31 31;", 0);
        falls("size 5 5;sheet;", 0);
        falls("size 5 5;sheet 31 17 17 17 31;", 14 << 5 | 14 << 10 | 14 << 15);
        falls("size 4 4;sheet 6 9 9 6;", 6 << 4 | 6 << 8);
        falls("size 3 4;sheet 2 5 5 2;", 2 << 3 | 2 << 6);
        falls("size 4 3;sheet 6 9 6;", 6 << 4);
        check.due("all OPEN", check.house("size 5 5;sheet 31 17 17 17 31;").shop(0, 30), (1 << 25) - 1);
    }

    // Or BESIDE such ones that are HELD: one up, down, left or right, but not across.
    private static void heldByOneBeside() {
        falls("sheet 5 5 7;", 0);
        falls("sheet 7 4 7;", 0);
        falls("sheet 7 1 7;", 0);
        falls("sheet 7 5 5;", 0);
        falls("sheet 6 5 7;", 16);
        falls("sheet 3 5 7;", 16);
        falls("sheet 7 5 6;", 16);
        falls("sheet 7 5 3;", 16);
        falls("sheet 2 5 2;", 16);
    }

    // The chain goes right, down and left, or left, up and right; cut once, what is behind it falls.
    private static void heldAlongAChain() {
        falls("size 5 5;sheet 29 17 23 17 31;", 0);
        falls("size 5 5;sheet 29 21 23 17 31;", 1 << 8 | 1 << 13 | 14 << 15);
        falls("size 5 5;sheet 29 17 31 17 31;", 14 << 15);
        falls("size 5 5;sheet 31 17 29 17 23;", 0);
        falls("size 5 5;sheet 31 17 29 21 23;", 14 << 5 | 1 << 11 | 1 << 16);
        falls("size 5 5;sheet 31 17 31 17 23;", 14 << 5);
    }

    // NONE: there is none such (of either).
    private static void noSuchShopOrDay() {
        StencilHouse house = house("", "");
        int[] others = {-1, 1, 2, -2, Integer.MIN_VALUE, Integer.MAX_VALUE};
        check.due("stop", house.stop(0, 0), 0);
        for (int none : others) {
            check.due("stop, SHOP " + none, house.stop(none, 0), -1);
            check.due("stop, DAY " + none, house.stop(0, none), -1);
            check.due("state, SHOP " + none, house.state(none, 0, 0, 0), -1);
            check.due("state, DAY " + none, house.state(0, none, 0, 0), -1);
            check.due("after, SHOP " + none, house.after(none, 0, 2), -2);
            check.due("after, DAY " + none, house.after(0, none, 2), -2);
            check.due("drawn, SHOP " + none, house.drawn(none, 0, 0, 0), -1);
        }
        check.told(house, 0, "sheet;");
        check.told(house, 1, "flip 0;");
        check.due("none of SHOP 0", house.stop(0, 1), 0);
        check.due("one of SHOP 1", house.stop(1, 1), 1);
    }

    private static void stops(String shop, String day, int stop) {
        check.due("STOP of '" + day + "' at '" + shop + "'", house(shop, day).stop(0, 0), stop);
    }

    // A DEED can't be, if there is no such SHEET.
    private static void noSuchSheet() {
        String[] before = {"spray ", "flip ", "turn ", "slide ", "patch "};
        String[] behind = {" 1;", ";", ";", " 1 0;", " 0 0;"};
        for (int kind = 0; kind < 5; kind++) {
            for (int sheets = 0; sheets <= 6; sheets++) {
                for (int sheet = 0; sheet < 6; sheet++) {
                    stops("sheet 1;".repeat(sheets), before[kind] + sheet + behind[kind], sheet < sheets ? 1 : 0);
                }
            }
        }
    }

    // spray: a SHEET that was sprayed fewer times than WEAR.
    private static void sprayedAsOftenAsWear() {
        for (int wear = 1; wear <= 9; wear++) {
            stops("sheet 1;sheet 1;wear 0 " + wear + ";", "spray 0 1;".repeat(wear - 1) + "spray 0 2;", wear);
            stops("sheet 1;sheet 1;wear 0 " + wear + ";", "spray 0 1;".repeat(wear + 1), wear);
            stops("sheet 1;sheet 1;wear 0 " + wear + ";", "spray 0 1;".repeat(wear) + "spray 1 1;spray 0 1;", wear + 1);
        }
        stops("sheet 1;", "spray 0 1;spray 0 1;spray 0 1;spray 0 1;", 3);
        stops("sheet 1;wear 0 1;", "spray 0 1;flip 0;slide 0 1 0;turn 0;patch 0 0 2;spray 0 2;", 5);
        // One that is OPEN nowhere is sprayed all the same.
        stops("sheet;wear 0 2;", "spray 0 1;spray 0 1;spray 0 1;", 2);
    }

    // Where it is OPEN, the wall has that colour then.
    private static void openAndSprayed() {
        StencilHouse house = house(RING + "sheet 0 2;sheet;", "spray 0 9;spray 1 1;spray 2 5;");
        for (int cell = 0; cell < 9; cell++) {
            check.due("at first " + cell, house.state(0, 0, 0, 100 + cell), 0);
            check.due("what falls is OPEN " + cell, house.state(0, 0, 1, 100 + cell), 9);
            check.due("one over it " + cell, house.state(0, 0, 2, 100 + cell), cell == 4 ? 1 : 9);
            check.due("nothing over it " + cell, house.state(0, 0, 3, 100 + cell), cell == 4 ? 1 : 9);
        }
    }

    // flip: its CUT CELLS (not how it is slid) go from left to right in W; turn: round by a half in W and H.
    private static void flippedAndTurned() {
        StencilHouse house = house("size 4 2;sheet 1 4;", "slide 0 1 0;flip 0;turn 0;flip 0;turn 0;");
        int[] cut = {1 | 4 << 4, 1 | 4 << 4, 8 | 2 << 4, 4 | 1 << 4, 2 | 8 << 4, 1 | 4 << 4};
        int[] open = {1 | 4 << 4, 2 | 8 << 4, 4 << 4, 8 | 2 << 4, 4, 2 | 8 << 4};
        for (int n = 0; n <= 5; n++) {
            check.due("CUT " + n, house.state(0, 0, n, 10), cut[n]);
            check.due("OPEN " + n, house.state(0, 0, n, 20), open[n]);
            check.due("slid " + n, house.state(0, 0, n, 40), n == 0 ? 0 : 10);
        }
        // W of 1: flipped it is as it was, and may be all the same; all CUT, none CUT, too.
        stops("size 1 3;sheet 1;", "flip 0;flip 0;", 2);
        stops("size 1 1;sheet 1;sheet;", "flip 0;turn 0;flip 1;turn 1;", 4);
        StencilHouse narrow = house("size 1 3;sheet 1 1;", "flip 0;turn 0;");
        check.due("flipped", narrow.state(0, 0, 1, 10), 3);
        check.due("turned", narrow.state(0, 0, 2, 10), 6);
        StencilHouse full = house("size 5 5;sheet 31 31 31 31 30;", "flip 0;turn 0;");
        check.due("flipped", full.state(0, 0, 1, 10), (1 << 25) - 1 & ~(1 << 24));
        check.due("turned", full.state(0, 0, 2, 10), (1 << 25) - 2);
    }

    // What comes to lie beyond W and H is nowhere.
    private static void slidBeyond() {
        for (int x = 0; x < 5; x++) {
            for (int y = 0; y < 5; y++) {
                if (x + y > 0) {
                    StencilHouse house = house("sheet 7 7 7;", "slide 0 " + x + " " + y + ";spray 0 3;");
                    int row = 7 << x & 7;
                    int open = (row | row << 3 | row << 6) << 3 * y & ALL;
                    check.due("OPEN " + x + " " + y, house.state(0, 0, 1, 20), open);
                    check.due("CUT " + x + " " + y, house.state(0, 0, 1, 10), ALL);
                    check.due("slid " + x + " " + y, house.state(0, 0, 1, 40), 10 * x + y);
                    check.due("sprays " + x + " " + y, house.state(0, 0, 2, 0), 1);
                    check.due("coloured " + x + " " + y, house.state(0, 0, 2, 1), Integer.bitCount(open));
                }
            }
        }
        // What falls goes by the SHEET that is not slid.
        StencilHouse ring = house(RING, "slide 0 1 0;");
        check.due("ring", ring.state(0, 0, 1, 20), 6 | 6 << 3 | 6 << 6);
        StencilHouse far = house("size 5 5;sheet 1;", "slide 0 4 4;");
        check.due("farthest", far.state(0, 0, 1, 20), 1 << 24);
        StencilHouse last = house("size 5 5;sheet 16 0 0 0 1;", "slide 0 1 0;slide 0 0 1;");
        check.due("not into the next row", last.state(0, 0, 1, 20), 2 << 20);
        check.due("not above the first", last.state(0, 0, 2, 20), 16 << 5);
    }

    // slide: it is slid by so much (in place of what was), another one than it was.
    private static void slidAsItWas() {
        stops("sheet 1;", "slide 0 0 0;", 0);
        stops("sheet 1;", "slide 0 1 0;", 1);
        stops("sheet 1;", "slide 0 0 1;", 1);
        stops("sheet 1;", "slide 0 1 2;slide 0 1 2;", 1);
        stops("sheet 1;", "slide 0 1 2;slide 0 2 1;slide 0 2 2;slide 0 0 0;slide 0 0 0;", 4);
        stops("sheet 1;sheet 1;", "slide 0 1 2;slide 1 1 2;slide 1 1 2;", 2);
        stops("size 1 1;sheet 1;", "slide 0 4 4;slide 0 4 3;slide 0 4 3;", 2);
        StencilHouse house = house("sheet 1;", "slide 0 1 1;slide 0 1 0;");
        check.due("in place of what was", house.state(0, 0, 2, 20), 2);
        check.due("in place of what was", house.state(0, 0, 2, 40), 10);
    }

    // patch: a CUT CELL of it (as it lies by now, but not slid) is CUT no more.
    private static void patched() {
        stops("sheet 1;", "patch 0 0 0;", 1);
        stops("sheet 1;", "patch 0 0 0;patch 0 0 0;", 1);
        stops("sheet 1;", "patch 0 1 0;", 0);
        stops("sheet 1;", "patch 0 0 1;", 0);
        stops("sheet 0 0 4;", "patch 0 2 2;", 1);
        // What falls is OPEN, but not CUT.
        stops(RING, "patch 0 1 1;", 0);
        // Beyond W and H there is no CELL.
        stops("sheet 7 7 7;", "patch 0 3 0;", 0);
        stops("sheet 7 7 7;", "patch 0 0 3;", 0);
        stops("sheet 7 7 7;", "patch 0 4 4;", 0);
        stops("size 5 5;sheet 0 0 0 0 16;", "patch 0 4 4;", 1);
        // As it lies by now: flipped and turned, but not slid.
        stops("sheet 1;", "flip 0;patch 0 0 0;", 1);
        stops("sheet 1;", "flip 0;patch 0 2 0;", 2);
        stops("sheet 1;", "turn 0;patch 0 2 2;", 2);
        stops("sheet 1;", "slide 0 1 0;patch 0 1 0;", 1);
        stops("sheet 1;", "slide 0 1 0;patch 0 0 0;", 2);
        stops("sheet 1;", "slide 0 4 4;patch 0 0 0;", 2);
        StencilHouse house = house("sheet 3;", "patch 0 0 0;flip 0;slide 0 0 1;");
        int[] cut = {3, 2, 2, 2};
        int[] open = {3, 2, 2, 16};
        for (int n = 0; n < 4; n++) {
            check.due("CUT " + n, house.state(0, 0, n, 10), cut[n]);
            check.due("OPEN " + n, house.state(0, 0, n, 20), open[n]);
        }
        check.due("as told still", house.shop(0, 10), 3);
    }

    // What FALLS goes by what is CUT now.
    private static void patchedByWhatIsCutNow() {
        StencilHouse house = house(RING, "patch 0 1 0;");
        check.due("fell", house.state(0, 0, 0, 20), ALL);
        check.due("is held", house.state(0, 0, 1, 20), ALL & ~2 & ~16);
        StencilHouse island = house("sheet 7 7 7;", "patch 0 1 1;patch 0 0 1;");
        check.due("CUT no more", island.state(0, 0, 1, 10), ALL & ~16);
        check.due("but falls", island.state(0, 0, 1, 20), ALL);
        check.due("is held then", island.state(0, 0, 2, 20), ALL & ~16 & ~8);
        check.due("the colour is there", house("sheet 7 7 7;", "patch 0 1 1;spray 0 1;").state(0, 0, 2, 104), 1);
    }

    // wash: a colour that is on the wall becomes 0.
    private static void washed() {
        for (int colour = 1; colour <= 9; colour++) {
            stops("sheet 1;", "wash " + colour + ";", 0);
            stops("sheet 1;", "spray 0 " + colour + ";wash " + (colour % 9 + 1) + ";", 1);
            StencilHouse house = house("sheet 1;sheet 2;", "spray 0 " + colour + ";spray 1 " + (colour % 9 + 1) + ";wash "
                + colour + ";wash " + colour + ";");
            check.due("STOP", house.stop(0, 0), 3);
            check.due("washed", house.state(0, 0, 3, 100), 0);
            check.due("another stays", house.state(0, 0, 3, 101), colour % 9 + 1);
            check.due("coloured", house.state(0, 0, 3, 1), 1);
            check.due("sprays", house.state(0, 0, 3, 0), 2);
        }
        stops("sheet 1;sheet 3;", "spray 0 1;spray 1 2;wash 1;", 2);
        stops("sheet;", "spray 0 1;wash 1;", 1);
        stops("", "wash 1;", 0);
        stops("sheet 1;", "spray 0 1;wash 1;spray 0 1;wash 1;spray 0 1;wash 1;spray 0 1;", 6);
    }

    // STOP: the first DEED that can't be, else how many there are.
    private static void stopsAtTheFirst() {
        stops("sheet 1;", "", 0);
        stops("sheet 1;", "flip 1;flip 0;flip 0;", 0);
        stops("sheet 1;", "flip 0;flip 1;flip 0;", 1);
        stops("sheet 1;", "flip 0;flip 0;flip 1;", 2);
        stops("sheet 1;", "flip 0;flip 0;flip 0;", 3);
        stops("sheet 1;", "flip 0;wash 1;flip 1;slide 0 0 0;", 1);
    }

    private static void fullDay() {
        stops("sheet 1;", "flip 0;".repeat(40), 40);
        stops("sheet 1;", "flip 0;".repeat(39) + "wash 1;", 39);
        StencilHouse house = house("sheet 1;", "flip 0;".repeat(39) + "spray 0 7;");
        check.due("before the last", house.state(0, 0, 39, 0), 0);
        check.due("behind the last", house.state(0, 0, 40, 0), 1);
        check.due("CUT behind it", house.state(0, 0, 40, 10), 4);
        check.due("colour behind it", house.state(0, 0, 40, 102), 7);
        check.due("no more", house.state(0, 0, 41, 0), -1);
    }

    // A wall all of whose CELLS have colour 0, SHEETS as told, not slid: whatever was asked before.
    private static void dayBeginsAsTold() {
        StencilHouse house = house("sheet 1;sheet 7 7 7;wear 0 1;", "spray 0 1;spray 1 2;slide 0 2 2;patch 0 0 0;flip 1;");
        for (int round = 0; round < 2; round++) {
            check.due("STOP", house.stop(0, 0), 5);
            check.due("after", house.after(0, 0, 2), 1);
            int[] whats = {0, 1, 10, 20, 30, 31, 40, 100, 108};
            int[] due = {0, 0, 1, 1, 0, 0, 0, 0, 0};
            for (int i = 0; i < whats.length; i++) {
                check.due("what " + whats[i], house.state(0, 0, 0, whats[i]), due[i]);
            }
            check.due("drawn not at all", house.drawn(0, 7, 0, 1), 0);
            check.due("drawn not at all", house.drawn(0, 7, 0, 40), 0);
        }
    }

    // Behind the first n DEEDS, n up to STOP; NONE: there is no such STATE.
    private static void statesUpToStop() {
        StencilHouse house = house("sheet 1;", "spray 0 1;spray 0 2;wash 1;flip 0;");
        check.told(house, 1, "spray 0 1;spray 0 2;wash 2;flip 0;");
        int[] others = {-1, -2, 41, 100, Integer.MIN_VALUE, Integer.MAX_VALUE};
        for (int n = 0; n < 6; n++) {
            check.due("n " + n, house.state(0, 0, n, 0), n > 2 ? -1 : n);
            check.due("n " + n + ", no STOP", house.state(0, 1, n, 0), n > 4 ? -1 : Math.min(n, 2));
        }
        for (int n : others) {
            check.due("n " + n, house.state(0, 0, n, 0), -1);
            check.due("n " + n, house.state(0, 1, n, 0), -1);
        }
        StencilHouse none = house("", "");
        check.due("no DEEDS", none.state(0, 0, 0, 0), 0);
        check.due("no DEEDS", none.state(0, 0, 1, 0), -1);
    }

    private static int dueOfState(int what, int sheets, int cells) {
        int s = Math.floorMod(what, 10);
        if (what >= 10 && what < 50 && s < sheets) {
            int[] all = {s == 1 ? 0 : 1, s == 1 ? 0 : s == 0 ? 1 << 4 : 1, s == 0 ? 2 : 0, s == 0 ? 11 : 0};
            return all[what / 10 - 1];
        }
        if (what >= 100 && what < 100 + cells) {
            return what == 100 ? 1 : what == 104 ? 9 : 0;
        }
        return what == 0 || what == 1 ? 2 : -1;
    }

    // For another what: NONE.
    private static void whatOfAState() {
        for (int sheets = 2; sheets <= 6; sheets++) {
            StencilHouse house = house("sheet 1;sheet;" + "sheet 1;".repeat(sheets - 2), "spray 0 1;slide 0 1 1;spray 0 9;");
            for (int what = -60; what < 180; what++) {
                check.due("what " + what, house.state(0, 0, 3, what), dueOfState(what, sheets, 9));
            }
            check.due("MIN", house.state(0, 0, 3, Integer.MIN_VALUE), -1);
            check.due("MAX", house.state(0, 0, 3, Integer.MAX_VALUE), -1);
        }
        for (int side = 1; side <= 5; side++) {
            StencilHouse house = house("size " + side + " " + side + ";", "");
            check.due("last CELL", house.state(0, 0, 0, 99 + side * side), 0);
            check.due("no CELL", house.state(0, 0, 0, 100 + side * side), -1);
        }
    }

    private static void after(String shop, String day, int what, int due) {
        check.due("after " + what + " '" + day + "'", house(shop, day).after(0, 0, what), due);
    }

    // FIRST: the DEED by which a colour was first sprayed over another one (not 0; none).
    private static void firstOver() {
        String shop = "sheet 3;sheet 1;sheet 4;";
        after(shop, "", 0, -1);
        after(shop, "spray 0 1;", 0, -1);
        after(shop, "spray 0 1;spray 0 1;spray 1 1;", 0, -1);
        after(shop, "spray 0 1;spray 2 2;", 0, -1);
        after(shop, "spray 0 1;spray 1 2;", 0, 1);
        after(shop, "spray 0 2;spray 1 1;", 0, 1);
        after(shop, "spray 0 9;spray 1 8;", 0, 1);
        after(shop, "flip 2;flip 2;spray 0 1;flip 2;spray 1 2;spray 0 3;", 0, 4);
        after(shop, "spray 0 1;wash 1;spray 0 2;", 0, -1);
        after(shop, "spray 0 1;wash 1;spray 0 2;spray 1 3;", 0, 3);
        after("sheet 3;sheet;", "spray 0 1;spray 1 2;", 0, -1);
        after(shop, "spray 0 1;slide 1 0 1;spray 1 2;", 0, -1);
    }

    // BUSY: the SHEET that was sprayed most, of several the least (none: none).
    private static void busy() {
        String shop = "sheet 3;sheet 1;sheet 4;sheet;sheet;sheet;";
        after(shop, "", 1, -1);
        after("", "", 1, -1);
        after(shop, "flip 0;", 1, -1);
        after(shop, "spray 5 1;", 1, 5);
        after(shop, "spray 2 1;spray 1 1;", 1, 1);
        after(shop, "spray 0 1;spray 5 1;spray 5 1;", 1, 5);
        after(shop, "spray 4 1;spray 4 1;spray 3 1;spray 3 1;spray 0 1;", 1, 3);
    }

    // OVER: how many times a CELL that had a colour, not 0, got another one by a spray; WASHED: CELLS in all.
    private static void overAndWashed() {
        String shop = "sheet 7 7 7;sheet 1;sheet 0 7;";
        after(shop, "", 2, 0);
        after(shop, "spray 0 1;", 2, 0);
        after(shop, "spray 0 1;spray 0 1;", 2, 0);
        after(shop, "spray 0 1;spray 1 2;spray 1 3;spray 1 3;", 2, 2);
        after(shop, "spray 0 1;spray 2 2;spray 0 1;", 2, 6);
        after(shop, "spray 0 1;spray 2 2;spray 0 3;", 2, 12);
        after(shop, "spray 0 1;wash 1;spray 0 2;", 2, 0);
        after(shop, "", 3, 0);
        after(shop, "spray 0 1;", 3, 0);
        after(shop, "spray 0 1;wash 1;", 3, 9);
        after(shop, "spray 0 1;spray 1 2;wash 1;wash 2;", 3, 9);
        after(shop, "spray 0 1;spray 1 2;wash 2;wash 1;spray 2 4;wash 4;", 3, 12);
        after(shop, "spray 0 1;spray 1 2;wash 2;wash 2;wash 1;", 3, 1);
    }

    // LEFT: how many CELLS are 0.
    private static void left() {
        after("", "", 4, 9);
        after("size 1 1;", "", 4, 1);
        after("size 5 5;", "", 4, 25);
        after("size 5 5;sheet 31 31 31 31 31;", "spray 0 1;", 4, 0);
        after("size 5 5;sheet 31 31 31 31 31;", "spray 0 9;wash 9;", 4, 25);
        after("size 5 5;sheet 31 31 31 31;sheet 1;", "spray 0 9;spray 1 1;wash 1;", 4, 6);
    }

    // TORN: SHEETS (bits) sprayed as often as WEAR.
    private static void torn() {
        String shop = "sheet 1;sheet 1;sheet 1;sheet 1;sheet 1;sheet;wear 0 1;wear 5 1;wear 4 9;";
        after(shop, "", 5, 0);
        after(shop, "spray 0 1;", 5, 1);
        after(shop, "spray 5 1;", 5, 32);
        after(shop, "spray 0 1;spray 5 1;", 5, 33);
        after(shop, "spray 1 1;spray 1 1;", 5, 0);
        after(shop, "spray 1 1;spray 1 1;spray 1 1;", 5, 2);
        after(shop, "spray 4 1;".repeat(8), 5, 0);
        after(shop, "spray 4 1;".repeat(9), 5, 16);
        after(shop, "spray 0 1;spray 0 1;", 5, 1);
        after("", "", 5, 0);
    }

    // Behind all DEEDS up to STOP; -2 for another what.
    private static void afterUpToStop() {
        StencilHouse house = house("sheet 3;sheet 1;wear 1 1;", "spray 0 1;spray 1 2;wash 2;wash 2;spray 0 3;spray 0 4;wash 3;");
        int[] due = {1, 0, 1, 1, 8, 2};
        for (int what = -3; what < 10; what++) {
            check.due("what " + what, house.after(0, 0, what), what >= 0 && what < 6 ? due[what] : -2);
        }
        check.due("MIN", house.after(0, 0, Integer.MIN_VALUE), -2);
        check.due("MAX", house.after(0, 0, Integer.MAX_VALUE), -2);
    }

    private static int seed = 0;

    private static int draw(int below) {
        seed = seed * 1103515245 + 12345;
        return (seed >>> 16) % below;
    }

    // A seed by which these numbers are drawn, one after another.
    private static int seedFor(int[] below, int[] drawn) {
        for (int from = -100000; from < 40000000; from++) {
            seed = from;
            boolean is = true;
            for (int i = 0; i < below.length && is; i++) {
                is = draw(below[i]) == drawn[i];
            }
            if (is) {
                return from;
            }
        }
        check.due("a seed", 0, 1);
        return 0;
    }

    private static void drawnOnce(StencilHouse house, int kind, int what, int due, int... numbers) {
        int[] below = kind == 9 ? new int[] {10, 9} : kind < 4 ? new int[] {10, 6, 9}
            : kind < 6 ? new int[] {10, 6} : new int[] {10, 6, 5, 5};
        int[] drawn = new int[below.length];
        drawn[0] = kind;
        System.arraycopy(numbers, 0, drawn, 1, drawn.length - 1);
        check.due("kind " + kind + " what " + what, house.drawn(0, seedFor(below, drawn), 1, what), due);
    }

    // 0 to 3: spray; 4: flip, 5: turn; 6, 7: slide, 8: patch; 9: wash.
    private static void drawnKinds() {
        StencilHouse house = check.house("sheet 1;sheet 2;sheet 6;sheet 1 2;sheet 1;sheet 3 1;");
        for (int kind = 0; kind < 4; kind++) {
            drawnOnce(house, kind, 100, 1, 0, 0);
            drawnOnce(house, kind, 100, 9, 5, 8);
            drawnOnce(house, kind, 103, 9, 5, 8);
            drawnOnce(house, kind, 101, 4, 1, 3);
            drawnOnce(house, kind, 31, 1, 1, 3);
            drawnOnce(house, kind, 1, 3, 5, 0);
        }
        drawnOnce(house, 4, 15, 6 | 4 << 3, 5);
        drawnOnce(house, 4, 10, 4, 0);
        drawnOnce(house, 4, 11, 2, 0);
        drawnOnce(house, 5, 15, 4 << 3 | 6 << 6, 5);
        drawnOnce(house, 5, 10, 256, 0);
        for (int kind = 6; kind < 8; kind++) {
            drawnOnce(house, kind, 45, 40, 5, 4, 0);
            drawnOnce(house, kind, 40, 4, 0, 0, 4);
            drawnOnce(house, kind, 40, 12, 0, 1, 2);
            drawnOnce(house, kind, 20, 16, 0, 1, 1);
            drawnOnce(house, kind, 10, 1, 0, 1, 1);
        }
        drawnOnce(house, 8, 15, 1 | 1 << 3, 5, 1, 0);
        drawnOnce(house, 8, 15, 3, 5, 0, 1);
        drawnOnce(house, 8, 45, 0, 5, 0, 1);
        drawnOnce(house, 9, 0, 0, 0);
        drawnOnce(house, 9, 1, 0, 8);
    }

    // x of 32 bits, shifted right by 16 without sign.
    private static void drawnShiftsWithoutSign() {
        // Of seed 2 x becomes -2087924461, 33676 without sign: 6, a slide; with sign it were a spray.
        StencilHouse house = check.house("sheet 1;");
        seed = 2;
        check.due("first draw", draw(10), 6);
        int sheet = draw(1);
        int slid = 10 * draw(5) + draw(5);
        check.due("SHEET", sheet, 0);
        check.due("no spray", house.drawn(0, 2, 1, 0), 0);
        check.due("slid", house.drawn(0, 2, 1, 40), slid);
        int[] seeds = {Integer.MAX_VALUE, Integer.MIN_VALUE, -1, 0, 1};
        for (int from : seeds) {
            seed = from;
            int kind = draw(10);
            int sprays = kind < 4 ? 1 : 0;
            check.due("sprays of seed " + from, house.drawn(0, from, 1, 0), sprays);
        }
        check.due("x wraps around", house.drawn(0, 1 << 31, 60, 40), house.drawn(0, Integer.MIN_VALUE, 60, 40));
    }

    // Each, if it may: a torn SHEET, a slide as it is, a patch of what is not CUT, a wash of what is not there draw, but do nothing.
    private static void drawnIfItMay() {
        StencilHouse house = check.house("sheet 1;wear 0 1;");
        int[] sprayTwice = {10, 1, 9, 10, 1, 9};
        int two = seedFor(sprayTwice, new int[] {0, 0, 1, 3, 0, 4});
        check.due("one spray", house.drawn(0, two, 1, 0), 1);
        check.due("not torn again", house.drawn(0, two, 2, 0), 1);
        check.due("the first colour", house.drawn(0, two, 2, 100), 2);
        int[] slideSpray = {10, 1, 5, 5, 10, 1, 9};
        int slide = seedFor(slideSpray, new int[] {7, 0, 0, 0, 1, 0, 6});
        check.due("not slid", house.drawn(0, slide, 1, 40), 0);
        check.due("sprayed then", house.drawn(0, slide, 2, 100), 7);
        int patch = seedFor(slideSpray, new int[] {8, 0, 4, 4, 1, 0, 5});
        check.due("not patched", house.drawn(0, patch, 1, 10), 1);
        check.due("sprayed then", house.drawn(0, patch, 2, 100), 6);
        int[] washSpray = {10, 9, 10, 1, 9};
        int wash = seedFor(washSpray, new int[] {9, 4, 2, 0, 3});
        check.due("not washed", house.drawn(0, wash, 1, 1), 0);
        check.due("sprayed then", house.drawn(0, wash, 2, 100), 4);
        int[] sprayWash = {10, 1, 9, 10, 9};
        int both = seedFor(sprayWash, new int[] {3, 0, 8, 9, 8});
        check.due("sprayed", house.drawn(0, both, 1, 100), 9);
        check.due("washed", house.drawn(0, both, 2, 100), 0);
        check.due("still a spray", house.drawn(0, both, 2, 0), 1);
    }

    // n times, 0 to 60; NONE: another n, or for another what.
    private static void drawnTimes() {
        StencilHouse house = check.house("size 3 1;sheet 3;");
        int[] others = {-1, 61, -60, 100, Integer.MIN_VALUE, Integer.MAX_VALUE};
        for (int n : others) {
            check.due("n " + n, house.drawn(0, 5, n, 0), -1);
        }
        check.due("n 0", house.drawn(0, 5, 0, 0), 0);
        int flipAtLast = 0;
        while (kindOfLast(flipAtLast) != 4) {
            flipAtLast++;
        }
        int before = house.drawn(0, flipAtLast, 59, 10);
        check.due("before the 60th", before, 4);
        check.due("the 60th is done", house.drawn(0, flipAtLast, 60, 10), FLIPPED[before]);
        check.due("what -1", house.drawn(0, 5, 60, -1), -1);
        check.due("what 2", house.drawn(0, 5, 60, 2), -1);
        check.due("what 11", house.drawn(0, 5, 60, 11), -1);
        check.due("what 10", house.drawn(0, 5, 0, 10), 3);
        check.due("what 99", house.drawn(0, 5, 60, 99), -1);
        check.due("what 103", house.drawn(0, 5, 60, 103), -1);
        check.due("as told still", house.shop(0, 10), 3);
    }

    // What is drawn for the 60th time with one SHEET.
    private static int kindOfLast(int from) {
        seed = from;
        int kind = 0;
        for (int i = 0; i < 60; i++) {
            kind = draw(10);
            draw(kind == 9 ? 9 : 1);
            for (int more = kind < 4 ? 1 : kind < 6 || kind == 9 ? 0 : 2; more > 0; more--) {
                draw(9);
            }
        }
        return kind;
    }

    // Without SHEETS 0 to 8 draw no more, nothing is done.
    private static void drawnWithoutSheets() {
        StencilHouse house = check.house("");
        for (int from = -50; from < 50; from++) {
            for (int n = 0; n <= 60; n += 20) {
                check.due("sprays", house.drawn(0, from, n, 0), 0);
                check.due("coloured", house.drawn(0, from, n, 1), 0);
                check.due("a CELL", house.drawn(0, from, n, 108), 0);
                check.due("a SHEET", house.drawn(0, from, n, 10), -1);
            }
        }
    }
}
