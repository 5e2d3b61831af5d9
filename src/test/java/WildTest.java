import java.util.Random;

/** Calls with any arguments in any state: none throws, none goes on for ever. */
public final class WildTest {
    private static final Random random = new Random(7);
    private static final String[] WORDS = {"size", "slip", "sheet", "wear", "spray", "flip", "turn", "slide", "patch",
        "wash", "row", "top", "bare", ";", ";", ";", "\n", "?", "0", "1", "2", "3", "4", "5", "7", "31", "100", "\u00ff"};
    private static final int[] NUMBERS = {-1, 0, 1, 2, 3, 4, 5, 6, 7, 9, 10, 11, 12, 15, 16, 20, 25, 30, 40, 45, 60, 61,
        100, 110, 124, 125, 729, 730, -2, -100, Integer.MAX_VALUE, Integer.MIN_VALUE};

    public static void main(String[] args) {
        long sum = 0;
        for (int round = 0; round < 400; round++) {
            StencilHouse house = new StencilHouse();
            for (int call = 0; call < 512; call++) {
                sum += random.nextInt(3) == 0 ? text(house) : call(house, random.nextInt(28));
            }
        }
        System.out.println("no call threw (" + sum + ")");
    }

    private static int number() {
        return random.nextInt(20) == 0 ? random.nextInt() : NUMBERS[random.nextInt(random.nextInt(NUMBERS.length) + 1)];
    }

    private static String line(int sort) {
        int sheet = random.nextInt(4);
        int a = random.nextInt(5);
        int b = random.nextInt(5);
        switch (sort) {
            case 0:
                return random.nextInt(4) == 0 ? "size " + (a + 1) + " " + (b + 1) + ";" : "sheet " + random.nextInt(8) + " "
                    + random.nextInt(4) + " " + random.nextInt(8) + ";";
            case 1:
                String[] deeds = {"spray " + sheet + " " + (a + 1), "flip " + sheet, "turn " + sheet,
                    "slide " + sheet + " " + a + " " + b, "patch " + sheet + " " + a + " " + b, "wash " + (a + 1)};
                return deeds[random.nextInt(6)] + ";";
            case 2:
                return "row " + a + " " + b + " " + a + ";";
            default:
                return random.nextInt(3) == 0 ? "bare " + a + " " + b + ";" : "top " + a + " " + b + " " + sheet + ";";
        }
    }

    private static int text(StencilHouse house) {
        int sort = random.nextInt(4);
        StringBuilder text = new StringBuilder();
        int many = random.nextInt(6);
        for (int i = 0; i < many; i++) {
            text.append(line(sort));
        }
        while (random.nextInt(3) == 0) {
            text.append(WORDS[random.nextInt(WORDS.length)]).append(' ');
        }
        return Check.tell(house, random.nextInt(9) == 0 ? number() : sort, random.nextInt(3) - 1, text.toString());
    }

    private static int call(StencilHouse house, int which) {
        int a = random.nextInt(4) == 0 ? number() : random.nextInt(2);
        int b = random.nextInt(4) == 0 ? number() : random.nextInt(2);
        int c = number();
        int d = number();
        boolean yes = random.nextBoolean();
        switch (which) {
            case 0: return house.feed(a, b, c, d, a);
            case 1: return house.end(a);
            case 2: return house.fault(a);
            case 3: return house.shop(a, c);
            case 4: return house.deed(a, c, d);
            case 5: return house.stop(a, b);
            case 6: return house.state(a, b, c, d);
            case 7: return house.bridges(a, b, yes);
            case 8: return house.make(a, b, c);
            case 9: return house.cover(a, yes);
            case 10: return house.atOnce(a, yes);
            case 11: return house.duel(a, random.nextInt(4), yes);
            case 12: return house.chance(a, c, d, yes);
            case 13: return house.within(a, b, c);
            case 14: return house.picture(a, c, d);
            case 15: return house.mark(a, c, d);
            case 16: return house.fits(a, b, c);
            case 17: return house.drawn(a, d, c, number());
            case 18: return house.holes(a, b, c);
            case 19: return house.sheets(a, c);
            case 20: return house.unlike(a, b, c);
            case 21: return house.seen(a, b);
            case 22: return house.show(a, c);
            case 23: return house.colours(a, b) + house.count(c);
            case 24: return house.plain(a, b, c);
            case 25: return house.off(a, b);
            case 26: return house.after(a, b, c);
            default: return yes ? house.image(c) ? 1 : 0 : house.again(c) ? 1 : 0;
        }
    }
}
