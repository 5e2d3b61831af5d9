import java.util.ArrayList;
import java.util.List;
import java.util.Random;
import java.util.regex.Matcher;
import java.util.regex.Pattern;

/** Promises 4 and 5, 6, 7, 17 and 18 on texts by seeds, beside a reading of them by patterns and by trying ends. */
public final class FaultsTest {
    private static final Check check = new Check();
    private static final Random random = new Random(20261119);
    private static final Pattern TOKEN = Pattern.compile("[a-z]+|[0-9]+|[^\\n ]", Pattern.DOTALL);
    private static final String[] LINES = {
        "((size N N |slip N |sheet (N )*|wear N N ); )*",
        "((spray N N |flip N |turn N |slide N N N |patch N N N |wash N ); )*",
        "(row (N )*; )*",
        "((top N N N |bare N N ); )*"};
    private static final String[] ENDS = {"", "; ", "N ; ", "N N ; ", "N N N ; "};
    // The first word of a line, then least and greatest of its numbers; of sheet and row all are as the first.
    private static final String[] BOUNDS = {"size 1 5 1 5", "slip 0 10", "sheet 0 31", "wear 0 5 1 9", "spray 0 5 1 9",
        "flip 0 5", "turn 0 5", "slide 0 5 0 4 0 4", "patch 0 5 0 4 0 4", "wash 1 9", "row 0 9", "top 0 4 0 4 0 5", "bare 0 4 0 4"};
    private static final int[] MOST = {6, 40, 5, 8};
    private static final String[][] WORDS = {{"size", "slip", "sheet", "sheet", "sheet", "wear"},
        {"spray", "flip", "turn", "slide", "patch", "wash"}, {"row"}, {"top", "bare"}};
    private static final int[] NUMBERS = {0, 0, 0, 1, 1, 1, 2, 2, 3, 3, 4, 5, 6, 7, 9, 10, 11, 31, 32, 99};

    private static int place;

    public static void main(String[] args) {
        int[] seen = new int[6];
        for (int round = 0; round < 30000; round++) {
            int sort = random.nextInt(4);
            String text = text(sort, random.nextInt(3));
            int fault = fault(sort, text);
            seen[fault]++;
            StencilHouse house = new StencilHouse();
            String name = "round " + round + ", sort " + sort + ", '" + text + "' ";
            check.due(name + "text", Check.tell(house, sort, -1, text), fault == 0 ? 0 : -1);
            check.due(name + "fault", house.fault(0), fault);
            check.due(name + "place", house.fault(1), fault == 0 ? -1 : place);
            check.due(name + "count", house.count(sort), fault == 0 ? 1 : 0);
            if (fault == 0) {
                compare(name, house, sort, lines(text));
            }
        }
        for (int fault = 0; fault < 6; fault++) {
            check.due("many texts of fault " + fault, seen[fault] > 300, true);
        }
        check.finish();
    }

    // Wild 0: as good as can be; 1: numbers and how many lines of any kind; 2: signs changed, too.
    private static String text(int sort, int wild) {
        StringBuilder text = new StringBuilder();
        int lines = random.nextInt(random.nextInt(4) == 0 ? MOST[sort] + 2 : Math.min(MOST[sort], 7) + 1);
        for (int i = 0; i < lines; i++) {
            String word = WORDS[sort][random.nextInt(WORDS[sort].length)];
            int[] bounds = bounds(word);
            boolean isRow = word.equals("sheet") || word.equals("row");
            int many = isRow ? random.nextInt(wild == 0 ? 6 : 7) : bounds.length / 2;
            text.append(word);
            for (int k = 0; k < many; k++) {
                int of = isRow ? 0 : 2 * k;
                int number = bounds[of] + random.nextInt(bounds[of + 1] - bounds[of] + 1);
                if (isRow && sort == 0) {
                    number = k > 2 && random.nextInt(8) != 0 ? 0 : random.nextInt(8);
                }
                if (wild > 0 && random.nextInt(12) == 0) {
                    number = NUMBERS[random.nextInt(NUMBERS.length)];
                }
                text.append(k > 0 || random.nextInt(5) > 0 ? blank() : "").append(random.nextInt(9) == 0 && number < 10 ? "0" : "").append(number);
            }
            text.append(random.nextInt(4) == 0 ? blank() : "").append(';').append(random.nextInt(4) == 0 ? blank() : "");
        }
        for (int i = 0; wild == 2 && i < 2 && text.length() > 0; i++) {
            change(text);
        }
        return text.length() > 600 ? text.substring(0, 600) : text.toString();
    }

    private static String blank() {
        return random.nextInt(6) == 0 ? "\n" : random.nextInt(6) == 0 ? "  " : " ";
    }

    private static void change(StringBuilder text) {
        int at = random.nextInt(text.length());
        String signs = "09 ;;az\n\t?";
        switch (random.nextInt(5)) {
            case 0: text.deleteCharAt(at); break;
            case 1: text.insert(at, signs.charAt(random.nextInt(signs.length()))); break;
            case 2: text.setCharAt(at, signs.charAt(random.nextInt(signs.length()))); break;
            case 3: text.setCharAt(at, (char) random.nextInt(256)); break;
            default: text.setLength(at);
        }
    }

    private static int[] bounds(String word) {
        for (String row : BOUNDS) {
            String[] parts = row.split(" ");
            if (parts[0].equals(word)) {
                int[] bounds = new int[parts.length - 1];
                for (int i = 0; i < bounds.length; i++) {
                    bounds[i] = Integer.parseInt(parts[i + 1]);
                }
                return bounds;
            }
        }
        throw new IllegalStateException(word);
    }

    // Answers the fault and leaves its place.
    private static int fault(int sort, String text) {
        Matcher token = TOKEN.matcher(text);
        StringBuilder kinds = new StringBuilder();
        while (token.find()) {
            kinds.append(kind(token.group())).append(' ');
            place = token.start();
            if (!goesOn(sort, kinds.toString())) {
                return 1;
            }
        }
        place = text.length();
        if (!kinds.toString().matches(LINES[sort])) {
            return 1;
        }
        int least = 10 * text.length() + 9;
        for (int found : numbersAndRoom(sort, text)) {
            least = Math.min(least, found);
        }
        if (least < 10 * text.length()) {
            place = least / 10;
            return least % 10;
        }
        return sort == 0 ? shopFault(lines(text)) : 0;
    }

    private static String kind(String sign) {
        return sign.matches("[0-9]{1,2}") ? "N" : sign.matches("[a-z]+|;") ? sign : "?";
    }

    private static boolean goesOn(int sort, String kinds) {
        for (String end : ENDS) {
            if ((kinds + end).matches(LINES[sort])) {
                return true;
            }
        }
        return false;
    }

    // Each fault 2 and 3 as ten times its place, and itself.
    private static List<Integer> numbersAndRoom(int sort, String text) {
        List<Integer> found = new ArrayList<>();
        Matcher token = TOKEN.matcher(text);
        int counted = 0;
        int k = 0;
        int[] bounds = {};
        boolean isRow = false;
        while (token.find()) {
            String sign = token.group();
            if (sign.matches("[a-z]+")) {
                bounds = bounds(sign);
                isRow = sign.equals("sheet") || sign.equals("row");
                counted += sort > 0 || isRow ? 1 : 0;
                k = 0;
                if (counted > MOST[sort] && (sort > 0 || isRow)) {
                    found.add(10 * token.start() + 3);
                }
            } else if (!sign.equals(";")) {
                int number = Integer.parseInt(sign);
                int of = isRow ? 0 : 2 * k;
                if (number < bounds[of] || number > bounds[of + 1]) {
                    found.add(10 * token.start() + 2);
                }
                k++;
                if (isRow && k == 6) {
                    found.add(10 * token.start() + 3);
                }
            }
        }
        return found;
    }

    /** The lines of a text without fault 1, each its word and its numbers. */
    private static List<String[]> lines(String text) {
        List<String[]> lines = new ArrayList<>();
        for (String line : text.split(";")) {
            List<String> parts = new ArrayList<>();
            Matcher token = TOKEN.matcher(line);
            while (token.find()) {
                parts.add(token.group());
            }
            if (!parts.isEmpty()) {
                lines.add(parts.toArray(new String[0]));
            }
        }
        return lines;
    }

    private static int number(String[] line, int k) {
        return k < line.length ? Integer.parseInt(line[k]) : -1;
    }

    private static List<String[]> linesOf(List<String[]> lines, String word) {
        List<String[]> found = new ArrayList<>();
        for (String[] line : lines) {
            if (line[0].equals(word)) {
                found.add(line);
            }
        }
        return found;
    }

    private static int latest(List<String[]> lines, int k, int atFirst) {
        return lines.isEmpty() ? atFirst : number(lines.get(lines.size() - 1), k);
    }

    private static int shopFault(List<String[]> lines) {
        List<String[]> sheets = linesOf(lines, "sheet");
        int w = latest(linesOf(lines, "size"), 1, 3);
        int h = latest(linesOf(lines, "size"), 2, 3);
        for (String[] wear : linesOf(lines, "wear")) {
            if (number(wear, 1) >= sheets.size()) {
                return 4;
            }
        }
        for (String[] sheet : sheets) {
            for (int y = 0; y + 1 < sheet.length; y++) {
                for (int x = 0; x < 5; x++) {
                    if ((number(sheet, y + 1) >> x & 1) != 0 && (x >= w || y >= h)) {
                        return 5;
                    }
                }
            }
        }
        return 0;
    }

    private static void compare(String name, StencilHouse house, int sort, List<String[]> lines) {
        switch (sort) {
            case 0: compareShop(name, house, lines); break;
            case 1: compareDay(name, house, lines); break;
            case 2: comparePicture(name, house, lines); break;
            default: compareMarks(name, house, lines);
        }
    }

    private static void compareShop(String name, StencilHouse house, List<String[]> lines) {
        List<String[]> sheets = linesOf(lines, "sheet");
        int w = latest(linesOf(lines, "size"), 1, 3);
        int[] told = {w, latest(linesOf(lines, "size"), 2, 3), latest(linesOf(lines, "slip"), 1, 0), sheets.size()};
        for (int what = 0; what < 4; what++) {
            check.due(name + "shop " + what, house.shop(0, what), told[what]);
        }
        for (int s = 0; s < 6; s++) {
            boolean isThere = s < sheets.size();
            int cut = 0;
            int wear = 3;
            for (int y = 0; isThere && y + 1 < sheets.get(s).length; y++) {
                cut |= number(sheets.get(s), y + 1) << w * y;
            }
            for (String[] line : linesOf(lines, "wear")) {
                wear = number(line, 1) == s ? number(line, 2) : wear;
            }
            check.due(name + "CUT " + s, house.shop(0, 10 + s), isThere ? cut : -1);
            check.due(name + "WEAR " + s, house.shop(0, 40 + s), isThere ? wear : -1);
        }
    }

    private static void compareDay(String name, StencilHouse house, List<String[]> lines) {
        check.due(name + "DEEDS", house.deed(0, -1, 0), lines.size());
        for (int k = 0; k < lines.size(); k++) {
            int kind = List.of(WORDS[1]).indexOf(lines.get(k)[0]);
            check.due(name + "DEED " + k, house.deed(0, k, 0), kind);
            for (int what = 1; what < 4; what++) {
                check.due(name + "DEED " + k + " " + what, house.deed(0, k, what), number(lines.get(k), what));
            }
        }
        check.due(name + "no DEED", house.deed(0, lines.size(), 0), -2);
    }

    private static void comparePicture(String name, StencilHouse house, List<String[]> lines) {
        for (int y = 0; y < 5; y++) {
            for (int x = 0; x < 5; x++) {
                int colour = y < lines.size() ? number(lines.get(y), x + 1) : -1;
                check.due(name + "colour " + x + " " + y, house.picture(0, x, y), Math.max(0, colour));
            }
        }
    }

    private static void compareMarks(String name, StencilHouse house, List<String[]> lines) {
        check.due(name + "MARKS", house.mark(0, -1, 0), lines.size());
        for (int k = 0; k < lines.size(); k++) {
            check.due(name + "MARK " + k, house.mark(0, k, 0), lines.get(k)[0].equals("bare") ? 1 : 0);
            for (int what = 1; what < 4; what++) {
                check.due(name + "MARK " + k + " " + what, house.mark(0, k, what), number(lines.get(k), what));
            }
        }
        check.due(name + "no MARK", house.mark(0, lines.size(), 0), -2);
    }
}
