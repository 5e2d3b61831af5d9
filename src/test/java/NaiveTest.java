import java.util.ArrayList;
import java.util.List;
import java.util.Random;

/** Promises 6 to 29 on shops by seeds, each answer beside that of Naive. */
public final class NaiveTest {
    private static final Check check = new Check();
    private static final Random random = new Random(20261118);

    public static void main(String[] args) {
        for (int round = 0; round < 260; round++) {
            int side = round < 160 ? 3 : 5;
            compare(round, 1 + random.nextInt(side), 1 + random.nextInt(side), random.nextInt(7));
        }
        for (int round = 0; round < 40; round++) {
            compare(1000 + round, 4 + random.nextInt(2), 3 + random.nextInt(2), 4 + random.nextInt(3));
        }
        check.finish();
    }

    private static void compare(int round, int w, int h, int n) {
        List<boolean[][]> cuts = new ArrayList<>();
        int[] wear = new int[n];
        StringBuilder text = new StringBuilder();
        int slip = random.nextInt(11);
        double often = random.nextDouble();
        for (int s = 0; s < n; s++) {
            boolean[][] cut = new boolean[h][w];
            text.append("sheet");
            for (int y = 0; y < h; y++) {
                int bits = 0;
                for (int x = 0; x < w; x++) {
                    boolean ring = (x == 0 || x == 2 || y == 0 || y == 2) && x < 3 && y < 3;
                    cut[y][x] = s == 1 && round % 3 == 0 ? ring : random.nextDouble() < often;
                    bits |= cut[y][x] ? 1 << x : 0;
                }
                text.append(' ').append(bits);
            }
            text.append(";");
            cuts.add(cut);
            wear[s] = random.nextInt(3) == 0 ? 3 : 1 + random.nextInt(9);
            if (wear[s] != 3) {
                text.append("wear ").append(s).append(' ').append(wear[s]).append(';');
            }
        }
        text.append("slip ").append(slip).append(";\nsize ").append(w).append(' ').append(h).append(" ;");
        StencilHouse house = new StencilHouse();
        Naive naive = new Naive(w, h, slip, cuts, wear);
        check.told(house, 0, text.toString());
        String name = "round " + round + " ";
        compareSheets(name, house, naive);
        compareAll(name, house, naive);
        compareDays(name, house, naive);
        comparePictures(name, house, naive);
        compareMarks(name, house, naive);
    }

    private static void compareSheets(String name, StencilHouse house, Naive naive) {
        for (int s = 0; s < naive.n(); s++) {
            check.due(name + "cut", house.shop(0, 10 + s), naive.bits(naive.cuts.get(s)));
            check.due(name + "falling", house.shop(0, 20 + s), naive.bits(naive.falls(naive.cuts.get(s))));
            check.due(name + "open", house.shop(0, 30 + s), naive.bits(naive.open(s)));
            check.due(name + "wear", house.shop(0, 40 + s), naive.wear[s]);
            int[] holes = naive.holes(s);
            for (int what = 0; what < 5; what++) {
                check.due(name + "holes " + s + " " + what, house.holes(0, s, what), holes[what]);
            }
            check.due(name + "seen " + s, house.seen(0, s), naive.seen(s));
            for (int b = 0; b < naive.n(); b++) {
                check.due(name + "within " + s + " " + b, house.within(0, s, b), naive.within(s, b));
                check.due(name + "unlike " + s + " " + b, house.unlike(0, s, b), naive.unlike(s, b));
            }
            int bridges = naive.bridges(s);
            check.due(name + "bridges " + s, house.bridges(0, s, true), bridges);
            check.due(name + "bridges " + s, house.bridges(0, s, false), bridges < 0 ? -1 : Integer.bitCount(bridges));
        }
    }

    private static void compareAll(String name, StencilHouse house, Naive naive) {
        check.due(name + "cover", house.cover(0, true), naive.cover());
        check.due(name + "cover", house.cover(0, false), Integer.bitCount(naive.cover()));
        check.due(name + "atOnce", house.atOnce(0, true), naive.atOnce());
        check.due(name + "atOnce", house.atOnce(0, false), Integer.bitCount(naive.atOnce()));
        int[] sheets = naive.sheets();
        for (int what = 0; what < 12; what++) {
            check.due(name + "sheets " + what, house.sheets(0, what), sheets[what]);
        }
        int[] show = naive.show();
        for (int k = -1; k < naive.n(); k++) {
            check.due(name + "show " + k, house.show(0, k), show[k + 1]);
        }
        for (int turns = 0; turns <= 6; turns++) {
            int[] duel = naive.duel(turns);
            check.due(name + "duel " + turns, house.duel(0, turns, false), duel[0]);
            check.due(name + "duel first " + turns, house.duel(0, turns, true), duel[1]);
        }
        for (int cell = 0; cell < naive.w * naive.h; cell += 1 + random.nextInt(3)) {
            for (int colour = 0; colour <= 6; colour++) {
                int[] chance = naive.chance(cell, colour);
                check.due(name + "chance " + cell + " " + colour, house.chance(0, cell, colour, false), chance[0]);
                check.due(name + "chance under " + cell + " " + colour, house.chance(0, cell, colour, true), chance[1]);
            }
        }
    }

    private static List<int[]> day(StringBuilder text, int n) {
        List<int[]> day = new ArrayList<>();
        String[] words = {"spray", "flip", "turn", "slide", "patch", "wash"};
        int deeds = random.nextInt(41);
        for (int k = 0; k < deeds; k++) {
            int kind = random.nextInt(8) % 6;
            int sheet = random.nextInt(60) == 0 ? random.nextInt(6) : random.nextInt(Math.max(1, n));
            int[] deed = {kind, sheet, -1, -1};
            if (kind == 0) {
                deed[2] = 1 + random.nextInt(3);
            } else if (kind == 3 || kind == 4) {
                deed[2] = random.nextInt(kind == 3 ? 5 : 3);
                deed[3] = random.nextInt(kind == 3 ? 5 : 3);
            } else if (kind == 5) {
                deed[1] = 1 + random.nextInt(3);
            }
            day.add(deed);
            text.append(words[kind]);
            for (int i = 1; i < 4; i++) {
                if (deed[i] >= 0) {
                    text.append(' ').append(deed[i]);
                }
            }
            text.append(';');
        }
        return day;
    }

    // Deeds that can't be are mostly left out, so that days go on.
    private static List<int[]> livelyDay(Naive naive, StringBuilder text) {
        List<int[]> day = new ArrayList<>();
        Naive.State state = naive.new State();
        for (int tries = 0; tries < 4; tries++) {
            for (int[] deed : day(new StringBuilder(), naive.n())) {
                boolean can = state.can(deed);
                if (day.size() < 40 && (can || random.nextInt(300) == 0)) {
                    day.add(deed);
                    if (can) {
                        state.act(deed);
                    }
                }
            }
        }
        String[] words = {"spray", "flip", "turn", "slide", "patch", "wash"};
        for (int[] deed : day) {
            text.append(words[deed[0]]);
            for (int i = 1; i < 4; i++) {
                if (deed[i] >= 0) {
                    text.append(' ').append(deed[i]);
                }
            }
            text.append(';');
        }
        return day;
    }

    private static void compareDays(String name, StencilHouse house, Naive naive) {
        for (int d = 0; d < 2; d++) {
            StringBuilder text = new StringBuilder();
            List<int[]> day = d == 0 ? day(text, naive.n()) : livelyDay(naive, text);
            check.told(house, 1, text.toString());
            Naive.State end = naive.new State();
            end.run(day, day.size());
            check.due(name + "stop", house.stop(0, d), end.deeds);
            int[] after = {end.first, end.busy(), end.over, end.washed, end.left(), end.torn()};
            for (int what = 0; what < 6; what++) {
                check.due(name + "after " + what, house.after(0, d, what), after[what]);
            }
            for (int n = 0; n <= end.deeds; n++) {
                Naive.State state = naive.new State();
                state.run(day, n);
                compareStates(name + "state " + d + " " + n, house, state, d, n);
            }
            check.due(name + "state beyond", house.state(0, d, end.deeds + 1, 0), -1);
        }
        for (int i = 0; i < 5; i++) {
            int seed = random.nextInt();
            int times = random.nextInt(61);
            Naive.State state = naive.drawn(seed, times);
            for (int what = -1; what < 130; what++) {
                check.due(name + "drawn " + seed + " " + times + " " + what, house.drawn(0, seed, times, what), state.tell(what));
            }
        }
    }

    private static void compareStates(String name, StencilHouse house, Naive.State state, int d, int n) {
        for (int what = -1; what < 130; what++) {
            check.due(name + " " + what, house.state(0, d, n, what), state.tell(what));
        }
    }

    private static int[][] picture(Naive naive, int kind) {
        int[][] picture = new int[5][5];
        Naive.State state = naive.new State();
        for (int s = 0; kind < 2 && s < naive.n(); s++) {
            if (random.nextInt(3) != 0) {
                state.spray(random.nextInt(naive.n()), 1 + random.nextInt(3));
            }
        }
        for (int y = 0; y < naive.h; y++) {
            for (int x = 0; x < naive.w; x++) {
                picture[y][x] = kind == 2 ? random.nextInt(4) : state.wall[y][x];
            }
        }
        if (random.nextInt(4) == 0) {
            picture[random.nextInt(5)][random.nextInt(5)] = random.nextInt(10);
        }
        return picture;
    }

    private static void comparePictures(String name, StencilHouse house, Naive naive) {
        for (int kind = 0; kind < 3; kind++) {
            int[][] picture = picture(naive, kind);
            StringBuilder text = new StringBuilder();
            for (int[] row : picture) {
                text.append("row");
                for (int colour : row) {
                    text.append(' ').append(colour);
                }
                text.append(';');
            }
            Check.tell(house, 2, kind == 0 ? -1 : 0, text.toString());
            List<Integer> make = naive.n() > 4 && kind == 2 ? List.of() : naive.make(picture);
            if (naive.n() <= 4 || kind != 2) {
                check.due(name + "make", house.make(0, 0, -1), make == null ? -1 : make.size());
                for (int k = 0; k < 7; k++) {
                    check.due(name + "make " + k, house.make(0, 0, k), make == null || k >= make.size() ? -1 : make.get(k));
                }
            }
            for (int colour = 1; colour < 10; colour++) {
                check.due(name + "plain " + colour, house.plain(0, 0, colour), naive.plain(picture, colour));
            }
            check.due(name + "off", house.off(0, 0), naive.off(picture));
            compareColours(name, house, picture);
        }
    }

    private static void compareColours(String name, StencilHouse house, int[][] picture) {
        int[] times = new int[10];
        for (int[] row : picture) {
            for (int colour : row) {
                times[colour]++;
            }
        }
        int colours = 0;
        int best = -1;
        for (int colour = 1; colour < 10; colour++) {
            colours += times[colour] > 0 ? 1 : 0;
            best = times[colour] > 0 && (best < 0 || times[colour] > times[best]) ? colour : best;
        }
        check.due(name + "colours 0", house.colours(0, 0), colours);
        check.due(name + "colours 1", house.colours(0, 1), best);
    }

    private static void compareMarks(String name, StencilHouse house, Naive naive) {
        for (int kind = 0; kind < 3; kind++) {
            List<int[]> rows = naive.rows(naive.n());
            int[] row = rows.get(random.nextInt(rows.size()));
            List<int[]> marks = new ArrayList<>();
            StringBuilder text = new StringBuilder();
            int many = random.nextInt(kind == 0 ? 9 : 4);
            for (int k = 0; k < many; k++) {
                int x = random.nextInt(kind == 2 ? 5 : naive.w);
                int y = random.nextInt(kind == 2 ? 5 : naive.h);
                int sheet = kind == 2 || x >= naive.w || y >= naive.h ? random.nextInt(7) - 1 : naive.top(row, x, y);
                marks.add(new int[] {x, y, sheet});
                text.append(sheet < 0 ? "bare " : "top ").append(x).append(' ').append(y);
                text.append(sheet < 0 ? "" : " " + sheet).append(';');
            }
            Check.tell(house, 3, kind == 0 ? -1 : 0, text.toString());
            List<int[]> fitting = naive.fits(marks);
            check.due(name + "fits", house.fits(0, 0, 0), fitting.size());
            check.due(name + "sure", house.fits(0, 0, 1), naive.sure(fitting));
            check.due(name + "ask", house.fits(0, 0, 2), naive.ask(fitting));
            for (int k = 0; k < fitting.size(); k += 1 + k / 4) {
                int number = 1;
                for (int s : fitting.get(k)) {
                    number = number * 10 + s;
                }
                check.due(name + "fits k " + k, house.fits(0, 0, 10 + k), number);
            }
            check.due(name + "fits beyond", house.fits(0, 0, 10 + fitting.size()), -2);
        }
    }
}
