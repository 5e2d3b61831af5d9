import java.math.BigInteger;
import java.util.ArrayList;
import java.util.List;

/**
 * The document's terms in their plainest form, on grids instead of bits and by trying all there is,
 * to compare the program with.
 */
final class Naive {
    final int w;
    final int h;
    final int slip;
    final List<boolean[][]> cuts;
    final int[] wear;

    Naive(int w, int h, int slip, List<boolean[][]> cuts, int[] wear) {
        this.w = w;
        this.h = h;
        this.slip = slip;
        this.cuts = cuts;
        this.wear = wear;
    }

    int n() {
        return cuts.size();
    }

    static boolean at(boolean[][] grid, int x, int y) {
        return y >= 0 && y < grid.length && x >= 0 && x < grid[y].length && grid[y][x];
    }

    int bits(boolean[][] grid) {
        int bits = 0;
        for (int y = 0; y < h; y++) {
            for (int x = 0; x < w; x++) {
                bits += grid[y][x] ? 1 << y * w + x : 0;
            }
        }
        return bits;
    }

    boolean[][] falls(boolean[][] cut) {
        boolean[][] held = new boolean[h][w];
        boolean again = true;
        while (again) {
            again = false;
            for (int y = 0; y < h; y++) {
                for (int x = 0; x < w; x++) {
                    boolean rim = x == 0 || y == 0 || x == w - 1 || y == h - 1;
                    boolean holds = rim || at(held, x - 1, y) || at(held, x + 1, y) || at(held, x, y - 1) || at(held, x, y + 1);
                    if (!cut[y][x] && !held[y][x] && holds) {
                        held[y][x] = true;
                        again = true;
                    }
                }
            }
        }
        boolean[][] falls = new boolean[h][w];
        for (int y = 0; y < h; y++) {
            for (int x = 0; x < w; x++) {
                falls[y][x] = !cut[y][x] && !held[y][x];
            }
        }
        return falls;
    }

    boolean[][] open(boolean[][] cut) {
        boolean[][] open = falls(cut);
        for (int y = 0; y < h; y++) {
            for (int x = 0; x < w; x++) {
                open[y][x] |= cut[y][x];
            }
        }
        return open;
    }

    boolean[][] open(int sheet) {
        return open(cuts.get(sheet));
    }

    boolean[][] slid(boolean[][] grid, int dx, int dy) {
        boolean[][] moved = new boolean[h][w];
        for (int y = 0; y < h; y++) {
            for (int x = 0; x < w; x++) {
                moved[y][x] = at(grid, x - dx, y - dy);
            }
        }
        return moved;
    }

    boolean[][] flip(boolean[][] grid) {
        boolean[][] result = new boolean[h][w];
        for (int y = 0; y < h; y++) {
            for (int x = 0; x < w; x++) {
                result[y][w - 1 - x] = grid[y][x];
            }
        }
        return result;
    }

    boolean[][] turn(boolean[][] grid) {
        boolean[][] result = new boolean[h][w];
        for (int y = 0; y < h; y++) {
            for (int x = 0; x < w; x++) {
                result[h - 1 - y][w - 1 - x] = grid[y][x];
            }
        }
        return result;
    }

    /** A wall and sheets by the deeds done so far. */
    final class State {
        final int[][] wall = new int[h][w];
        final boolean[][][] cut = new boolean[n()][][];
        final int[] times = new int[n()];
        final int[] dx = new int[n()];
        final int[] dy = new int[n()];
        int sprays = 0;
        int deeds = 0;
        int first = -1;
        int over = 0;
        int washed = 0;

        State() {
            for (int s = 0; s < n(); s++) {
                cut[s] = slid(cuts.get(s), 0, 0);
            }
        }

        boolean can(int[] d) {
            if (d[0] == 5) {
                for (int[] row : wall) {
                    for (int colour : row) {
                        if (colour == d[1]) {
                            return true;
                        }
                    }
                }
                return false;
            }
            if (d[1] >= n()) {
                return false;
            }
            switch (d[0]) {
                case 0: return times[d[1]] < wear[d[1]];
                case 3: return dx[d[1]] != d[2] || dy[d[1]] != d[3];
                case 4: return at(cut[d[1]], d[2], d[3]);
                default: return true;
            }
        }

        void act(int[] d) {
            int s = d[1];
            switch (d[0]) {
                case 0:
                    spray(s, d[2]);
                    break;
                case 1: cut[s] = flip(cut[s]); break;
                case 2: cut[s] = turn(cut[s]); break;
                case 3: dx[s] = d[2]; dy[s] = d[3]; break;
                case 4: cut[s][d[3]][d[2]] = false; break;
                default:
                    for (int[] row : wall) {
                        for (int x = 0; x < w; x++) {
                            if (row[x] == d[1]) {
                                row[x] = 0;
                                washed++;
                            }
                        }
                    }
            }
        }

        void spray(int s, int colour) {
            boolean[][] open = slid(open(cut[s]), dx[s], dy[s]);
            for (int y = 0; y < h; y++) {
                for (int x = 0; x < w; x++) {
                    if (open[y][x]) {
                        if (wall[y][x] != 0 && wall[y][x] != colour) {
                            over++;
                            first = first < 0 ? deeds : first;
                        }
                        wall[y][x] = colour;
                    }
                }
            }
            sprays++;
            times[s]++;
        }

        void run(List<int[]> day, int most) {
            while (deeds < most && can(day.get(deeds))) {
                act(day.get(deeds));
                deeds++;
            }
        }

        int tell(int what) {
            if (what == 0) {
                return sprays;
            }
            if (what == 1) {
                return w * h - left();
            }
            for (int s = 0; s < n(); s++) {
                if (what == 10 + s) {
                    return bits(cut[s]);
                }
                if (what == 20 + s) {
                    return bits(slid(open(cut[s]), dx[s], dy[s]));
                }
                if (what == 30 + s) {
                    return times[s];
                }
                if (what == 40 + s) {
                    return 10 * dx[s] + dy[s];
                }
            }
            for (int c = 0; c < w * h; c++) {
                if (what == 100 + c) {
                    return wall[c / w][c % w];
                }
            }
            return -1;
        }

        int left() {
            int left = 0;
            for (int[] row : wall) {
                for (int colour : row) {
                    left += colour == 0 ? 1 : 0;
                }
            }
            return left;
        }

        int busy() {
            int best = -1;
            for (int s = 0; s < n(); s++) {
                if (times[s] > 0 && (best < 0 || times[s] > times[best])) {
                    best = s;
                }
            }
            return best;
        }

        int torn() {
            int torn = 0;
            for (int s = 0; s < n(); s++) {
                torn += times[s] == wear[s] ? 1 << s : 0;
            }
            return torn;
        }
    }

    int[] drawnSeed = new int[1];

    int draw(int below) {
        drawnSeed[0] = drawnSeed[0] * 1103515245 + 12345;
        return (drawnSeed[0] >>> 16) % below;
    }

    State drawn(int seed, int times) {
        drawnSeed[0] = seed;
        State state = new State();
        for (int i = 0; i < times; i++) {
            int kind = draw(10);
            int[] d = null;
            if (kind == 9) {
                d = new int[] {5, draw(9) + 1, -1, -1};
            } else if (n() > 0) {
                int s = draw(n());
                switch (kind) {
                    case 4: d = new int[] {1, s, -1, -1}; break;
                    case 5: d = new int[] {2, s, -1, -1}; break;
                    case 6:
                    case 7: d = new int[] {3, s, draw(5), draw(5)}; break;
                    case 8: d = new int[] {4, s, draw(5), draw(5)}; break;
                    default: d = new int[] {0, s, draw(9) + 1, -1};
                }
            }
            if (d != null && state.can(d)) {
                state.act(d);
            }
        }
        return state;
    }

    /** All sets of three cut cells at most of which patching lets nothing fall: the fewest, the least number. */
    int bridges(int sheet) {
        int cut = bits(cuts.get(sheet));
        int best = -1;
        for (int a = 0; a < w * h; a++) {
            for (int b = 0; b <= a; b++) {
                for (int c = 0; c <= b; c++) {
                    int[] sets = {0, 1 << a, 1 << a | 1 << b, 1 << a | 1 << b | 1 << c};
                    for (int set : sets) {
                        if ((set & ~cut) == 0 && isBetter(set, best) && bits(falls(grid(cut & ~set))) == 0) {
                            best = set;
                        }
                    }
                }
            }
        }
        return best;
    }

    private static boolean isBetter(int set, int best) {
        int more = Integer.bitCount(set) - Integer.bitCount(best);
        return best < 0 || more < 0 || more == 0 && set < best;
    }

    boolean[][] grid(int bits) {
        boolean[][] grid = new boolean[h][w];
        for (int c = 0; c < w * h; c++) {
            grid[c / w][c % w] = (bits >> c & 1) != 0;
        }
        return grid;
    }

    /** All rows of so many sheets, by numbers. */
    List<int[]> rows(int length) {
        List<int[]> rows = new ArrayList<>();
        int all = 1;
        for (int i = 0; i < length; i++) {
            all *= n();
        }
        for (int number = 0; number < all; number++) {
            int[] row = new int[length];
            int rest = number;
            int used = 0;
            for (int i = length - 1; i >= 0; i--) {
                row[i] = rest % n();
                rest /= n();
                used |= 1 << row[i];
            }
            if (Integer.bitCount(used) == length) {
                rows.add(row);
            }
        }
        return rows;
    }

    /** Forward, with the colours that the picture has at all: the fewest, the first; null by none. */
    List<Integer> make(int[][] picture) {
        List<Integer> colours = new ArrayList<>();
        for (int y = 0; y < 5; y++) {
            for (int x = 0; x < 5; x++) {
                if (picture[y][x] != 0 && (x >= w || y >= h)) {
                    return null;
                }
            }
        }
        for (int colour = 1; colour < 10; colour++) {
            for (int[] row : picture) {
                for (int c : row) {
                    if (c == colour && !colours.contains(colour)) {
                        colours.add(colour);
                    }
                }
            }
        }
        for (int length = 0; length <= n(); length++) {
            List<Integer> found = make(picture, colours, new ArrayList<>(), 0, new int[h][w], length);
            if (found != null) {
                return found;
            }
        }
        return null;
    }

    private List<Integer> make(int[][] picture, List<Integer> colours, List<Integer> row, int used, int[][] wall, int left) {
        if (left == 0) {
            for (int y = 0; y < h; y++) {
                for (int x = 0; x < w; x++) {
                    if (wall[y][x] != picture[y][x]) {
                        return null;
                    }
                }
            }
            return row;
        }
        for (int s = 0; s < n(); s++) {
            if ((used >> s & 1) == 0) {
                boolean[][] open = open(s);
                for (int colour : colours) {
                    int[][] next = new int[h][w];
                    for (int y = 0; y < h; y++) {
                        for (int x = 0; x < w; x++) {
                            next[y][x] = open[y][x] ? colour : wall[y][x];
                        }
                    }
                    List<Integer> longer = new ArrayList<>(row);
                    longer.add(10 * s + colour);
                    List<Integer> found = make(picture, colours, longer, used | 1 << s, next, left - 1);
                    if (found != null) {
                        return found;
                    }
                }
            }
        }
        return null;
    }

    int cover() {
        int[] any = new int[w * h];
        for (int s = 0; s < n(); s++) {
            for (int c = 0; c < w * h; c++) {
                any[c] |= open(s)[c / w][c % w] ? 1 << s : 0;
            }
        }
        int best = -1;
        for (int set = 0; set < 1 << n(); set++) {
            boolean covers = true;
            for (int c = 0; c < w * h; c++) {
                covers &= any[c] == 0 || (any[c] & set) != 0;
            }
            if (covers && (best < 0 || Integer.bitCount(set) < Integer.bitCount(best))) {
                best = set;
            }
        }
        return best;
    }

    int atOnce() {
        int best = -1;
        for (int set = 0; set < 1 << n(); set++) {
            boolean apart = true;
            for (int a = 0; a < n(); a++) {
                for (int b = 0; b < a; b++) {
                    if ((set >> a & 1) != 0 && (set >> b & 1) != 0 && (bits(open(a)) & bits(open(b))) != 0) {
                        apart = false;
                    }
                }
            }
            if (apart && (best < 0 || Integer.bitCount(set) > Integer.bitCount(best))) {
                best = set;
            }
        }
        return best;
    }

    /** Worth and what is sprayed, plainly by all there is. */
    int[] duel(int turns, int done, int used, int[][] wall, boolean[][][] opens) {
        if (done == turns) {
            int worth = 0;
            for (int[] row : wall) {
                for (int colour : row) {
                    worth += colour == 1 ? 1 : colour == 2 ? -1 : 0;
                }
            }
            return new int[] {worth, -1};
        }
        int colour = done % 2 + 1;
        int[] best = null;
        for (int s = 0; s <= 6; s++) {
            if (s < 6 && (s >= n() || (used >> s & 1) != 0)) {
                continue;
            }
            int[][] next = new int[h][w];
            for (int y = 0; y < h; y++) {
                for (int x = 0; x < w; x++) {
                    next[y][x] = s < 6 && opens[s][y][x] ? colour : wall[y][x];
                }
            }
            int worth = duel(turns, done + 1, s < 6 ? used | 1 << s : used, next, opens)[0];
            if (best == null || (colour == 1 ? worth > best[0] : worth < best[0])) {
                best = new int[] {worth, s};
            }
        }
        return best;
    }

    int[] duel(int turns) {
        boolean[][][] opens = new boolean[n()][][];
        for (int s = 0; s < n(); s++) {
            opens[s] = open(s);
        }
        return duel(turns, 0, 0, new int[h][w], opens);
    }

    /** Over all ways in which sheets slip. */
    int[] chance(int cell, int colour) {
        long over = 0;
        long under = 1;
        for (int s = 0; s < n(); s++) {
            under *= 10;
        }
        for (int slipped = 0; slipped < 1 << n(); slipped++) {
            long weight = 1;
            int seen = 0;
            for (int s = 0; s < n(); s++) {
                boolean slips = (slipped >> s & 1) != 0;
                weight *= slips ? slip : 10 - slip;
                if (slid(open(s), slips ? 1 : 0, 0)[cell / w][cell % w]) {
                    seen = s + 1;
                }
            }
            over += seen == colour ? weight : 0;
        }
        long shared = BigInteger.valueOf(over).gcd(BigInteger.valueOf(under)).longValue();
        return new int[] {(int) (over / shared), (int) (under / shared)};
    }

    int within(int a, int b) {
        int slides = 0;
        for (int dx = 0; dx < 5; dx++) {
            for (int dy = 0; dy < 5; dy++) {
                int moved = bits(slid(open(a), dx, dy));
                slides += moved != 0 && (moved | bits(open(b))) == bits(open(b)) ? 1 : 0;
            }
        }
        return slides;
    }

    int top(int[] row, int x, int y) {
        int top = -1;
        for (int s : row) {
            if (open(s)[y][x]) {
                top = s;
            }
        }
        return top;
    }

    List<int[]> fits(List<int[]> marks) {
        List<int[]> fitting = new ArrayList<>();
        for (int[] row : rows(n())) {
            boolean fits = true;
            for (int[] mark : marks) {
                fits = fits && mark[0] < w && mark[1] < h && top(row, mark[0], mark[1]) == mark[2];
            }
            if (fits) {
                fitting.add(row);
            }
        }
        return fitting;
    }

    int sure(List<int[]> fitting) {
        int sure = -2;
        for (int[] row : fitting) {
            int last = row.length == 0 ? -1 : row[row.length - 1];
            sure = sure == -2 || sure == last ? last : -1;
        }
        return Math.max(sure, -1);
    }

    int ask(List<int[]> fitting) {
        int best = -1;
        int least = Integer.MAX_VALUE;
        for (int c = 0; c < w * h && !fitting.isEmpty(); c++) {
            int[] tops = new int[n() + 1];
            for (int[] row : fitting) {
                tops[top(row, c % w, c / w) + 1]++;
            }
            int greatest = 0;
            for (int times : tops) {
                greatest = Math.max(greatest, times);
            }
            if (greatest < least) {
                least = greatest;
                best = c;
            }
        }
        return best;
    }

    private int spread(boolean[][] open, boolean[][] seen, int x, int y) {
        if (!at(open, x, y) || seen[y][x]) {
            return 0;
        }
        seen[y][x] = true;
        return 1 + spread(open, seen, x - 1, y) + spread(open, seen, x + 1, y) + spread(open, seen, x, y - 1) + spread(open, seen, x, y + 1);
    }

    int[] holes(int sheet) {
        boolean[][] open = open(sheet);
        boolean[][] seen = new boolean[h][w];
        int[] told = new int[5];
        for (int y = 0; y < h; y++) {
            for (int x = 0; x < w; x++) {
                int size = spread(open, seen, x, y);
                told[0] += size > 0 ? 1 : 0;
                told[1] = Math.max(told[1], size);
                if (open[y][x]) {
                    int[][] sides = {{1, 0}, {-1, 0}, {0, 1}, {0, -1}};
                    for (int[] side : sides) {
                        told[2] += at(open, x + side[0], y + side[1]) ? 0 : 1;
                    }
                }
            }
            StringBuilder line = new StringBuilder();
            for (int x = 0; x < w; x++) {
                line.append(open[y][x] ? 'o' : ' ');
            }
            for (String stroke : line.toString().split(" ")) {
                told[3] += stroke.isEmpty() ? 0 : 1;
                told[4] = Math.max(told[4], stroke.length());
            }
        }
        return told;
    }

    int seen(int sheet) {
        int[] row = new int[n()];
        for (int s = 0; s < n(); s++) {
            row[s] = s;
        }
        int seen = 0;
        for (int c = 0; c < w * h; c++) {
            seen += top(row, c % w, c / w) == sheet ? 1 : 0;
        }
        return seen;
    }

    int openAt(int cell) {
        int set = 0;
        for (int s = 0; s < n(); s++) {
            set |= open(s)[cell / w][cell % w] ? 1 << s : 0;
        }
        return set;
    }

    int[] sheets() {
        int[] told = new int[12];
        told[9] = -1;
        for (int c = 0; c < w * h; c++) {
            int set = openAt(c);
            told[3] |= n() > 0 && set == (1 << n()) - 1 ? 1 << c : 0;
            told[4] |= set == 0 ? 1 << c : 0;
            told[6] |= Integer.bitCount(set) == 1 ? set : 0;
            if (Integer.bitCount(set) > told[8]) {
                told[8] = Integer.bitCount(set);
                told[7] = c;
            }
        }
        for (int s = 0; s < n(); s++) {
            boolean[][] cut = cuts.get(s);
            told[0] |= bits(cut) == bits(flip(cut)) ? 1 << s : 0;
            told[1] |= bits(cut) == bits(turn(cut)) ? 1 << s : 0;
            told[5] |= bits(falls(cut)) != 0 ? 1 << s : 0;
            told[11] |= seen(s) == 0 ? 1 << s : 0;
            for (int b = s + 1; b < n(); b++) {
                int other = bits(cuts.get(b));
                boolean twins = other == bits(cut) || other == bits(flip(cut)) || other == bits(turn(cut))
                    || other == bits(flip(turn(cut)));
                told[2] += twins ? 1 : 0;
                if (told[9] < 0 || unlike(s, b) < told[10]) {
                    told[9] = 10 * s + b;
                    told[10] = unlike(s, b);
                }
            }
        }
        return told;
    }

    int unlike(int a, int b) {
        int unlike = 0;
        for (int c = 0; c < w * h; c++) {
            int set = openAt(c);
            unlike += (set >> a & 1) != (set >> b & 1) ? 1 : 0;
        }
        return unlike;
    }

    int shown(int[] row) {
        int set = 0;
        for (int c = 0; c < w * h; c++) {
            int top = top(row, c % w, c / w);
            set |= top < 0 ? 0 : 1 << top;
        }
        return Integer.bitCount(set);
    }

    int[] show() {
        int[] best = null;
        int most = -1;
        for (int[] row : rows(n())) {
            int shown = shown(row);
            if (shown > most) {
                most = shown;
                best = row;
            }
        }
        int[] told = new int[n() + 1];
        told[0] = most;
        System.arraycopy(best, 0, told, 1, n());
        return told;
    }

    int plain(int[][] picture, int colour) {
        boolean[][] cut = new boolean[h][w];
        for (int y = 0; y < 5; y++) {
            for (int x = 0; x < 5; x++) {
                if (picture[y][x] == colour) {
                    if (x >= w || y >= h) {
                        return -1;
                    }
                    cut[y][x] = true;
                }
            }
        }
        return Integer.bitCount(bits(falls(cut)));
    }

    int off(int[][] picture) {
        int off = 0;
        for (int c = 0; c < w * h; c++) {
            int colour = 0;
            for (int s = 0; s < n(); s++) {
                colour = open(s)[c / w][c % w] ? s + 1 : colour;
            }
            off += picture[c / w][c % w] != colour ? 1 : 0;
        }
        return off;
    }
}
