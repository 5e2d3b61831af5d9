/** README.md's example; ReadmeTest looks that both are the same, and that it prints what stands there. */
public final class Example {
    public static void main(String[] args) {
        StencilHouse house = new StencilHouse();
        int shop = tell(house, 0, "size 4 3; slip 5; sheet 7 5 7; sheet 8 8 8; sheet 0 6; wear 1 1;");
        int day = tell(house, 1, "spray 0 4; flip 0; spray 0 2; spray 1 6; spray 1 7;");
        int picture = tell(house, 2, "row 4 4 4 6; row 4 4 4 6; row 4 4 4 6;");
        int marks = tell(house, 3, "top 1 1 0;");

        // shop(): 10 + s tells what is cut, 20 + s what falls, of sheet s, as bits.
        say("sheet 0 is cut at", house.shop(shop, 10));
        say("of sheet 0 falls", house.shop(shop, 20));
        say("patches that hold it", house.bridges(shop, 0, false));
        // The fifth deed can't be: sheet 1 wears but one spray.
        say("the day stops before deed", house.stop(shop, day));
        say("cell 3 after three deeds", house.state(shop, day, 3, 103));
        // With NONE for k these tell how many, else the k-th.
        say("sprays that make the picture", house.make(shop, picture, StencilHouse.NONE));
        say("the first of them", house.make(shop, picture, 0));
        say("orders that fit the marks", house.fits(shop, marks, 0));
        say("the first of them, a 1 ahead", house.fits(shop, marks, 10));
        say("of the chance of cell 3 and colour 2, N", house.chance(shop, 3, 2, false));
        say("of the same, D", house.chance(shop, 3, 2, true));

        // A faulty text changes nothing that was told before.
        house.image(0);
        say("a text with a fault", tell(house, 0, "size 4 3; slip 11;"));
        say("its fault", house.fault(0));
        say("the fault's place", house.fault(1));
        house.again(0);
        say("as the image has it, the fault", house.fault(0));
    }

    /** Puts a text alone onto the tape, has it taken as a further one of its sort, and answers its number. */
    private static int tell(StencilHouse house, int sort, String text) {
        house.end(0);
        for (int from = 0; from < text.length(); from += 20) {
            house.feed(four(text, from), four(text, from + 4), four(text, from + 8), four(text, from + 12), four(text, from + 16));
        }
        house.end(text.length());
        return house.text(sort, StencilHouse.NONE);
    }

    /** Four bytes of a text as a number, the first highest; blanks behind its end, which end() cuts off. */
    private static int four(String text, int from) {
        int number = 0;
        for (int i = from; i < from + 4; i++) {
            number = number << 8 | (i < text.length() ? text.charAt(i) : ' ');
        }
        return number;
    }

    private static void say(String what, int answer) {
        System.out.println(what + ": " + answer);
    }
}
