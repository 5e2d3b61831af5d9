/** Promises 8, 9, 20, 29: days at a shop, deed by deed, and drawn ones. */
public final class DayTest {
    private static final Check check = new Check();
    private static final String SHOP = "size 4 3;slip 5;sheet 7 5 7;sheet 8 8 8;sheet 0 6;wear 1 1;";
    private static final String DAY = "spray 0 4;spray 2 5;flip 0;slide 2 1 0;spray 2 4;patch 0 1 0;wash 5;spray 1 6;"
        + "turn 0;spray 1 7;";

    public static void main(String[] args) {
        stops();
        states();
        after();
        drawn();
        check.finish();
    }

    private static void stopsAt(String shop, String day, int stop) {
        StencilHouse house = new StencilHouse();
        check.told(house, 0, shop);
        check.told(house, 1, day);
        check.due("stop of '" + day + "'", house.stop(0, 0), stop);
    }

    private static void stops() {
        stopsAt(SHOP, DAY, 9);
        stopsAt(SHOP, "", 0);
        stopsAt(SHOP, "flip 0;flip 3;", 1);
        stopsAt("", "turn 0;", 0);
        stopsAt(SHOP, "slide 0 0 0;", 0);
        stopsAt(SHOP, "slide 0 0 1;slide 0 0 0;slide 0 4 4;slide 0 4 4;", 3);
        stopsAt(SHOP, "spray 1 1;spray 0 1;spray 0 1;spray 0 2;spray 0 1;", 4);
        stopsAt(SHOP, "wash 1;", 0);
        stopsAt(SHOP, "spray 1 2;wash 2;wash 2;", 2);
        stopsAt(SHOP, "patch 0 1 1;", 0);
        stopsAt(SHOP, "patch 0 4 0;", 0);
        stopsAt(SHOP, "patch 0 0 3;", 0);
        stopsAt(SHOP, "patch 0 0 0;patch 0 0 0;", 1);
        stopsAt(SHOP, "slide 1 1 0;patch 1 3 0;", 2);
        stopsAt(SHOP, "flip 1;patch 1 3 0;", 1);
        stopsAt(SHOP, "flip 1;patch 1 0 0;", 2);
        stopsAt("sheet;", "spray 0 1;wash 1;", 1);
        StencilHouse house = new StencilHouse();
        check.due("no shop, no day", house.stop(0, 0), -1);
        check.told(house, 0, SHOP);
        check.due("no day", house.stop(0, 0), -1);
        check.told(house, 1, DAY);
        check.due("no shop", house.stop(1, 0), -1);
        check.due("no shop", house.stop(-1, 0), -1);
        check.due("no day", house.stop(0, 1), -1);
    }

    private static void states() {
        StencilHouse house = new StencilHouse();
        check.told(house, 0, SHOP);
        check.told(house, 1, DAY);
        check.due("sprays at 0", house.state(0, 0, 0, 0), 0);
        check.due("coloured at 0", house.state(0, 0, 0, 1), 0);
        check.due("coloured at 1", house.state(0, 0, 1, 1), 9);
        check.due("island sprayed", house.state(0, 0, 1, 105), 4);
        check.due("over it", house.state(0, 0, 2, 105), 5);
        check.due("flipped", house.state(0, 0, 3, 10), 14 | 10 << 4 | 14 << 8);
        check.due("flipped, open", house.state(0, 0, 3, 20), 14 | 14 << 4 | 14 << 8);
        check.due("slid, cut", house.state(0, 0, 4, 12), 6 << 4);
        check.due("slid, open", house.state(0, 0, 4, 22), 12 << 4);
        check.due("slid", house.state(0, 0, 4, 42), 10);
        check.due("cell 7", house.state(0, 0, 5, 107), 4);
        check.due("cell 5", house.state(0, 0, 5, 105), 5);
        check.due("patched", house.state(0, 0, 6, 10), 12 | 10 << 4 | 14 << 8);
        check.due("washed", house.state(0, 0, 7, 105), 0);
        check.due("turned", house.state(0, 0, 9, 10), 855);
        check.due("turned, open", house.state(0, 0, 9, 20), 887);
        check.due("sprays", house.state(0, 0, 9, 0), 4);
        check.due("coloured", house.state(0, 0, 9, 1), 11);
        check.due("times 0", house.state(0, 0, 9, 30), 1);
        check.due("times 1", house.state(0, 0, 9, 31), 1);
        check.due("times 2", house.state(0, 0, 9, 32), 2);
        check.due("cell 11", house.state(0, 0, 9, 111), 6);
        int[] others = {-1, 2, 9, 13, 23, 33, 43, 50, 99, 112, Integer.MIN_VALUE, Integer.MAX_VALUE};
        for (int what : others) {
            check.due("state what " + what, house.state(0, 0, 9, what), -1);
        }
        check.due("n over STOP", house.state(0, 0, 10, 0), -1);
        check.due("n below 0", house.state(0, 0, -1, 0), -1);
        check.due("n over deeds", house.state(0, 0, 11, 0), -1);
        check.due("no shop", house.state(1, 0, 0, 0), -1);
        check.due("no day", house.state(0, 1, 0, 0), -1);
        check.due("the shop stays as told", house.shop(0, 10), 7 | 5 << 4 | 7 << 8);
    }

    private static void after() {
        StencilHouse house = new StencilHouse();
        check.told(house, 0, SHOP);
        check.told(house, 1, DAY);
        int[] due = {1, 2, 4, 1, 1, 2};
        for (int what = 0; what < 6; what++) {
            check.due("after " + what, house.after(0, 0, what), due[what]);
        }
        check.due("after 6", house.after(0, 0, 6), -2);
        check.due("after -1", house.after(0, 0, -1), -2);
        check.due("no shop", house.after(1, 0, 0), -2);
        check.due("no day", house.after(0, 1, 0), -2);
        check.told(house, 1, "flip 0;");
        int[] idle = {-1, -1, 0, 0, 12, 0};
        for (int what = 0; what < 6; what++) {
            check.due("idle day " + what, house.after(0, 1, what), idle[what]);
        }
        // The same colour over itself is no other one; two sheets as busy: the lesser.
        Check.tell(house, 1, 1, "spray 2 1;spray 0 1;spray 0 1;spray 2 1;");
        int[] same = {-1, 0, 0, 0, 3, 0};
        for (int what = 0; what < 6; what++) {
            check.due("one colour " + what, house.after(0, 1, what), same[what]);
        }
        Check.tell(house, 1, 1, "spray 0 1;wash 1;spray 0 2;wash 2;");
        check.due("over what was washed", house.after(0, 1, 0), -1);
        check.due("washed in all", house.after(0, 1, 3), 18);
    }

    private static void drawn() {
        StencilHouse house = new StencilHouse();
        check.told(house, 0, SHOP);
        int[] whats = {0, 1, 100, 108, 40, 42, 20, 11, 10, 31};
        int[] due = {1, 3, 5, 5, 13, 4, 0, 273, 1911 - 32, 1};
        for (int i = 0; i < whats.length; i++) {
            check.due("drawn 11 " + whats[i], house.drawn(0, 1, 11, whats[i]), due[i]);
        }
        check.due("torn sheet is not sprayed", house.drawn(0, 1, 12, 0), 1);
        check.due("washed", house.drawn(0, 1, 13, 1), 0);
        check.due("none drawn", house.drawn(0, 1, 0, 40), 0);
        check.due("turned", house.drawn(0, -7, 1, 10), 14 | 10 << 4 | 14 << 8);
        check.due("not slid, as it is", house.drawn(0, -7, 3, 41), 11);
        check.due("60 times", house.drawn(0, 1, 60, 0) >= 1 ? 1 : 0, 1);
        check.due("n 61", house.drawn(0, 1, 61, 0), -1);
        check.due("n -1", house.drawn(0, 1, -1, 0), -1);
        check.due("no shop", house.drawn(1, 1, 1, 0), -1);
        check.due("what 2", house.drawn(0, 1, 1, 2), -1);
        check.due("what 13", house.drawn(0, 1, 1, 13), -1);
        check.due("what 112", house.drawn(0, 1, 1, 112), -1);
        check.told(house, 0, "");
        check.due("without sheets", house.drawn(1, 5, 60, 0), 0);
        check.due("without sheets", house.drawn(1, 5, 60, 108), 0);
        check.due("without sheets", house.drawn(1, 5, 60, 10), -1);
    }
}
