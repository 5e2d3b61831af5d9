/** The edges that the document names of promises 1 to 5 and 30 to 32: the tape, texts, faults, images. */
public final class TapeEdgesTest {
    private static final Check check = new Check();
    private static final int[] OUTSIDE = {-1, -2, -3, -100, 100, Integer.MIN_VALUE, Integer.MAX_VALUE};
    private static final String[] GOOD = {"size 2 4;sheet 3;wear 0 9;", "wash 3;flip 0;", "row 0 7;", "bare 1 1;"};

    public static void main(String[] args) {
        nothingIsToldAtFirst();
        highestByteFirst();
        sixHundredBytesAndNoMore();
        refusedFeedChangesNothing();
        endWithinTheTape();
        endCutsWhatIsBehind();
        furtherTextsAreTwo();
        inPlaceOfOneThatIsThere();
        noSuchSort();
        refusedTextTakesTheTape();
        faultyTextChangesNothingElse();
        faultIsOfTheLatestText();
        everyByteBetweenTokens();
        everyByteBehindANumber();
        everyByteAtFirst();
        rowsOfDigits();
        wordsAsLongAsTheyGo();
        endOfTheTape();
        fullTape();
        wholeLinesAlone();
        counts();
        images();
        imagesThatWereNotMade();
        imagesStandAlone();
        check.finish();
    }

    // No SHOPS, DAYS, PICTURES, MARKS; no images.
    private static void nothingIsToldAtFirst() {
        StencilHouse house = new StencilHouse();
        check.due("shop", house.shop(0, 0), -1);
        check.due("deed", house.deed(0, 0, 0), -2);
        check.due("stop", house.stop(0, 0), -1);
        check.due("state", house.state(0, 0, 0, 0), -1);
        check.due("bridges", house.bridges(0, 0, false), -1);
        check.due("make", house.make(0, 0, -1), -1);
        check.due("cover", house.cover(0, false), -1);
        check.due("atOnce", house.atOnce(0, false), -1);
        check.due("duel", house.duel(0, 0, false), -99);
        check.due("duel first", house.duel(0, 0, true), -99);
        check.due("chance", house.chance(0, 0, 0, true), -1);
        check.due("within", house.within(0, 0, 0), -1);
        check.due("picture", house.picture(0, 0, 0), -1);
        check.due("mark", house.mark(0, -1, 0), -2);
        check.due("fits", house.fits(0, 0, 0), -2);
        check.due("drawn", house.drawn(0, 0, 0, 0), -1);
        check.due("holes", house.holes(0, 0, 0), -1);
        check.due("sheets", house.sheets(0, 0), -2);
        check.due("unlike", house.unlike(0, 0, 0), -1);
        check.due("seen", house.seen(0, 0), -1);
        check.due("show", house.show(0, -1), -1);
        check.due("colours", house.colours(0, 0), -2);
        check.due("plain", house.plain(0, 0, 1), -1);
        check.due("off", house.off(0, 0), -1);
        check.due("after", house.after(0, 0, 0), -2);
        for (int k = 0; k < 3; k++) {
            check.due("again " + k, house.again(k), false);
        }
        check.due("the tape is empty", house.end(1), -1);
        check.due("as a text it is one", house.text(0, -1), 0);
    }

    // Twenty bytes come behind it, of each number the highest first.
    private static void highestByteFirst() {
        StencilHouse house = new StencilHouse();
        check.due("feed", house.feed(0x736c6970, 0x2031303b, 0x73697a65, 0x20342035, 0x3b736865), 20);
        check.due("feed", house.feed(0x65742039, 0x3b202020, 0x20202020, 0x20202020, 0x20202020), 40);
        check.due("slip 10;size 4 5;sheet 9;", house.text(0, -1), 0);
        check.due("W", house.shop(0, 0), 4);
        check.due("H", house.shop(0, 1), 5);
        check.due("SLIP", house.shop(0, 2), 10);
        check.due("CUT", house.shop(0, 10), 9);
        // A byte of 128 or more is one without sign, and no blank.
        house.feed(-1, -1, -1, -1, -1);
        check.due("bytes 255", house.text(0, -1), -1);
        check.due("their place", house.fault(1), 0);
        house.feed(0x20202020, 0x202020a0, 0, 0, 0);
        check.due("a byte 160", house.text(0, -1), -1);
        check.due("its place", house.fault(1), 7);
    }

    // The tape has at most 600 bytes: NONE, if there would be more.
    private static void sixHundredBytesAndNoMore() {
        for (int cut = 0; cut <= 20; cut++) {
            StencilHouse house = new StencilHouse();
            Check.tape(house, " ".repeat(600));
            check.due("cut to " + (600 - cut), house.end(600 - cut), 600 - cut);
            check.due("feed behind " + (600 - cut), house.feed(1, 2, 3, 4, 5), cut == 20 ? 600 : -1);
            check.due("has " + (600 - cut), house.end(cut == 20 ? 600 : 601 - cut), cut == 20 ? 600 : -1);
        }
    }

    // NONE, and nothing comes.
    private static void refusedFeedChangesNothing() {
        StencilHouse house = new StencilHouse();
        Check.tape(house, "slip 3;" + " ".repeat(574));
        check.due("refused", house.feed(-1, -1, -1, -1, -1), -1);
        check.due("as long as before", house.end(582), -1);
        check.due("as long as before", house.end(581), 581);
        check.due("its text", house.text(0, -1), 0);
        check.due("its SLIP", house.shop(0, 2), 3);
        check.due("empty behind it", house.feed(0, 0, 0, 0, 0), 20);
    }

    // NONE if it has not so many, or n is below 0.
    private static void endWithinTheTape() {
        StencilHouse house = new StencilHouse();
        check.due("end(0) of none", house.end(0), 0);
        check.due("end(1) of none", house.end(1), -1);
        check.due("end(-1) of none", house.end(-1), -1);
        house.feed(0, 0, 0, 0, 0);
        for (int n : OUTSIDE) {
            check.due("end(" + n + ")", house.end(n), -1);
        }
        check.due("end(21)", house.end(21), -1);
        check.due("end(20)", house.end(20), 20);
        check.due("end(19)", house.end(19), 19);
        check.due("end(20) then", house.end(20), -1);
        check.due("end(0)", house.end(0), 0);
        check.due("end(1) then", house.end(1), -1);
    }

    private static void endCutsWhatIsBehind() {
        StencilHouse house = new StencilHouse();
        Check.tape(house, "slip 1;?");
        check.due("cut", house.end(7), 7);
        house.feed(0x20202020, 0x20202020, 0x20202020, 0x20202020, 0x20202020);
        check.due("what was cut is gone", house.text(0, -1), 0);
        Check.tape(house, "slip 10;");
        house.end(6);
        house.feed(0x3b202020, 0x20202020, 0x20202020, 0x20202020, 0x20202020);
        check.due("behind the first bytes", house.text(0, 0), 0);
        check.due("slip 1;", house.shop(0, 2), 1);
    }

    // A further one (at NONE): -2: there are as many as may be.
    private static void furtherTextsAreTwo() {
        for (int sort = 0; sort < 4; sort++) {
            StencilHouse house = new StencilHouse();
            check.due("first of " + sort, Check.tell(house, sort, -1, GOOD[sort]), 0);
            check.due("second of " + sort, Check.tell(house, sort, -1, ""), 1);
            check.due("third of " + sort, Check.tell(house, sort, -1, GOOD[sort]), -2);
            check.due("count of " + sort, house.count(sort), 2);
            for (int other = 0; other < 4; other++) {
                check.due("count of another sort", house.count(other), other == sort ? 2 : 0);
            }
            check.due("no fault", house.fault(0), 0);
            check.due("in place still", Check.tell(house, sort, 1, GOOD[sort]), 1);
        }
    }

    // Or in the place of one: -2: there is none such.
    private static void inPlaceOfOneThatIsThere() {
        for (int sort = 0; sort < 4; sort++) {
            StencilHouse house = new StencilHouse();
            for (int many = 0; many <= 2; many++) {
                for (int at = 0; at <= 3; at++) {
                    check.due(many + " of " + sort + ", at " + at, Check.tell(house, sort, at, GOOD[sort]), at < many ? at : -2);
                }
                for (int at : OUTSIDE) {
                    if (at != -1) {
                        check.due(many + " of " + sort + ", at " + at, Check.tell(house, sort, at, GOOD[sort]), -2);
                    }
                }
                check.due("count", house.count(sort), many);
                Check.tell(house, sort, -1, GOOD[sort]);
            }
        }
    }

    // -2: no such sort (the tape is empty then, too; no text is read, FAULT 0).
    private static void noSuchSort() {
        int[] sorts = {-1, 4, 5, -2, Integer.MIN_VALUE, Integer.MAX_VALUE};
        for (int sort : sorts) {
            for (int at = -1; at <= 1; at++) {
                StencilHouse house = new StencilHouse();
                check.due("sort " + sort, Check.tell(house, sort, at, "?"), -2);
                check.due("fault", house.fault(0), 0);
                check.due("place", house.fault(1), -1);
                check.due("tape", house.end(1), -1);
            }
        }
    }

    // The tape is empty then, however the text is taken.
    private static void refusedTextTakesTheTape() {
        StencilHouse house = check.house("", "");
        check.due("third", Check.tell(house, 0, -1, "slip 1;"), -2);
        check.due("tape", house.end(1), -1);
        check.due("none such", Check.tell(house, 1, 0, "wash 1;"), -2);
        check.due("tape", house.end(1), -1);
        check.due("faulty", Check.tell(house, 1, -1, "wash 0;"), -1);
        check.due("tape", house.end(1), -1);
        check.due("good", Check.tell(house, 1, -1, "wash 1;"), 0);
        check.due("tape", house.end(1), -1);
    }

    // NONE: a FAULT: no text is told then, and those that are stay.
    private static void faultyTextChangesNothingElse() {
        StencilHouse house = new StencilHouse();
        String[] bad = {"size 5 5;slip 9;sheet;sheet;wear 4 1;", "spray 1 1;spray 0 10;", "row 9 9;row 10;", "top 0 0 1;top 0 0 6;"};
        for (int sort = 0; sort < 4; sort++) {
            check.due("none told", Check.tell(house, sort, -1, bad[sort]), -1);
            check.due("count", house.count(sort), 0);
            check.told(house, sort, GOOD[sort]);
            check.due("in place", Check.tell(house, sort, 0, bad[sort]), -1);
            check.due("further", Check.tell(house, sort, -1, bad[sort]), -1);
            check.due("count", house.count(sort), 1);
        }
        int[] shop = {2, 4, 0, 1};
        for (int what = 0; what < 4; what++) {
            check.due("shop " + what, house.shop(0, what), shop[what]);
        }
        check.due("CUT", house.shop(0, 10), 3);
        check.due("WEAR", house.shop(0, 40), 9);
        check.due("DEEDS", house.deed(0, -1, 0), 2);
        check.due("DEED 0", house.deed(0, 0, 0), 5);
        check.due("colour", house.picture(0, 1, 0), 7);
        check.due("colour", house.picture(0, 0, 0), 0);
        check.due("MARKS", house.mark(0, -1, 0), 1);
        check.due("MARK 0", house.mark(0, 0, 0), 1);
    }

    // Of the latest text(): the FAULT, 0 without, its place, NONE without; NONE for another what.
    private static void faultIsOfTheLatestText() {
        StencilHouse house = new StencilHouse();
        Check.tell(house, 0, -1, "slip 11;");
        check.due("fault", house.fault(0), 2);
        check.due("place", house.fault(1), 5);
        check.due("what 2", house.fault(2), -1);
        for (int what : OUTSIDE) {
            check.due("what " + what, house.fault(what), -1);
        }
        house.feed(0, 0, 0, 0, 0);
        house.end(3);
        house.end(-1);
        house.image(0);
        house.shop(0, 0);
        check.due("no text since", house.fault(0), 2);
        check.due("no text since", house.fault(1), 5);
        Check.tell(house, 3, -1, "bare");
        check.due("another fault", house.fault(0), 1);
        check.due("another place", house.fault(1), 4);
        Check.tell(house, 3, 5, "bare");
        check.due("not read", house.fault(0), 0);
        check.due("not read", house.fault(1), -1);
        Check.tell(house, 3, -1, "bare");
        Check.tell(house, 3, -1, "bare 0 0;");
        check.due("without", house.fault(0), 0);
        check.due("without", house.fault(1), -1);
    }

    private static boolean isBlank(int sign) {
        return sign == 10 || sign == 32;
    }

    private static boolean isDigit(int sign) {
        return sign >= '0' && sign <= '9';
    }

    private static boolean isLetter(int sign) {
        return sign >= 'a' && sign <= 'z';
    }

    // Blanks (10, 32) between; rows of letters a .. z; ; one byte.
    private static void everyByteBetweenTokens() {
        for (int sign = 0; sign < 256; sign++) {
            String text = "slip" + (char) sign + "1;";
            if (isBlank(sign) || sign == '0') {
                check.faulty(0, text, 0, -1);
            } else if (isDigit(sign)) {
                check.faulty(0, text, 2, 4);
            } else {
                check.faulty(0, text, 1, isLetter(sign) ? 0 : 4);
            }
        }
    }

    // NUMBERS, 1 or 2 digits, as long as they go.
    private static void everyByteBehindANumber() {
        for (int sign = 0; sign < 256; sign++) {
            String text = "slip 1" + (char) sign + ";";
            if (isBlank(sign) || sign == '0') {
                check.faulty(0, text, 0, -1);
            } else if (isDigit(sign)) {
                check.faulty(0, text, 2, 5);
            } else {
                check.faulty(0, text, 1, sign == ';' ? 7 : 6);
            }
        }
    }

    private static void everyByteAtFirst() {
        for (int sign = 0; sign < 256; sign++) {
            check.faulty(3, (char) sign + "bare 0 0;", isBlank(sign) ? 0 : 1, isBlank(sign) ? -1 : 0);
        }
    }

    // A longer row of digits is no token: fault 1 at its first byte, wherever it stands.
    private static void rowsOfDigits() {
        check.faulty(0, "slip 0;", 0, -1);
        check.faulty(0, "slip 00;", 0, -1);
        check.faulty(0, "slip 000;", 1, 5);
        check.faulty(0, "slip 001;", 1, 5);
        check.faulty(0, "slip  0000000000000000000001;", 1, 6);
        check.faulty(0, "slip 99;", 2, 5);
        check.faulty(0, "slip 100;", 1, 5);
        check.faulty(0, "slip 1 0;", 1, 7);
        check.faulty(0, "slip 1 000;", 1, 7);
        check.faulty(0, "000", 1, 0);
        check.faulty(0, "00", 1, 0);
        check.faulty(0, "sheet 1 2 345;", 1, 10);
        check.faulty(0, "sheet 32 345;", 1, 9);
        check.faulty(0, "sheet 1 2 3 4 5 678;", 1, 16);
        check.faulty(2, "row 111;", 1, 4);
        StencilHouse house = check.house("slip 07;size 05 01;sheet 16;sheet 08;");
        check.due("a 0 ahead", house.shop(0, 2), 7);
        check.due("a 0 ahead", house.shop(0, 0), 5);
        check.due("two digits", house.shop(0, 10), 16);
        check.due("a 0 ahead", house.shop(0, 11), 8);
    }

    // TOKENS, as long as they go: words that run on are one, blanks part them.
    private static void wordsAsLongAsTheyGo() {
        check.faulty(0, "slips 1;", 1, 0);
        check.faulty(0, "sli 1;", 1, 0);
        check.faulty(0, "sl ip 1;", 1, 0);
        check.faulty(0, "slipslip 1;", 1, 0);
        check.faulty(0, "slip slip 1;", 1, 5);
        check.faulty(0, "Slip 1;", 1, 0);
        check.faulty(0, "sliP 1;", 1, 0);
        check.faulty(0, "slipP 1;", 1, 4);
        check.faulty(0, "slip\n1\n;\n", 0, -1);
        check.faulty(0, "  \n\n slip1;slip2 ;\nslip 3;", 0, -1);
        check.faulty(1, "spray 1 1 ; flip1;turn\n1;slide 1 1 1;patch1 1 1;wash 1;", 0, -1);
        check.faulty(1, "spray 11;", 1, 8);
    }

    // Fault 1 at the end's place, if the text is not at an end there.
    private static void endOfTheTape() {
        String whole = "size 3 3;";
        for (int length = 1; length < whole.length(); length++) {
            String text = whole.substring(0, length);
            boolean isWordCut = length < 4;
            check.faulty(0, text, 1, isWordCut ? 0 : length);
            check.faulty(0, "slip 0;" + text, 1, isWordCut ? 7 : 7 + length);
        }
        check.faulty(0, "", 0, -1);
        check.faulty(0, " ", 0, -1);
        check.faulty(0, "size", 1, 4);
        check.faulty(0, "size \n ", 1, 7);
        check.faulty(0, "sheet 1 ", 1, 8);
        // Faults of numbers before it give way to that of the end.
        check.faulty(0, "size 9 9", 1, 8);
        check.faulty(1, "flip 9", 1, 6);
    }

    // The tape of 600 bytes is read to its last one.
    private static void fullTape() {
        check.faulty(0, " ".repeat(593) + "slip 9;", 0, -1);
        check.faulty(0, " ".repeat(592) + "slip 11;", 2, 597);
        check.faulty(0, " ".repeat(594) + "slip 9", 1, 600);
        check.faulty(0, " ".repeat(595) + "slip9", 1, 600);
        check.faulty(0, "slip 9" + " ".repeat(594), 1, 600);
        check.faulty(0, " ".repeat(599) + "9", 1, 599);
        check.faulty(0, "wear 0 1;" + " ".repeat(591), 4, 600);
        check.faulty(0, "sheet 8;" + " ".repeat(592), 5, 600);
        check.faulty(0, "slip0;".repeat(100), 0, -1);
        check.faulty(0, "slip0;".repeat(99) + "slip11", 1, 600);
        check.faulty(2, "row;".repeat(150), 3, 20);
    }

    // A line has all its NUMBERS and no more.
    private static void wholeLinesAlone() {
        String[][] lines = {{"size 1 1", "slip 1", "wear 1 1"},
            {"spray 1 1", "flip 1", "turn 1", "slide 1 1 1", "patch 1 1 1", "wash 1"}, {}, {"top 1 1 1", "bare 1 1"}};
        for (int sort = 0; sort < 4; sort++) {
            for (String line : lines[sort]) {
                int length = line.length();
                String shorter = line.substring(0, length - 2);
                check.faulty(sort, shorter + ";", 1, length - 2);
                check.faulty(sort, line + " 1;", 1, length + 1);
                check.faulty(sort, line + ";;", 1, length + 1);
                check.faulty(sort, line + ";" + line, 1, 2 * length + 1);
                for (int other = 0; other < 4; other++) {
                    if (other != sort) {
                        check.faulty(other, line + ";", 1, 0);
                    }
                }
            }
        }
        check.faulty(0, ";", 1, 0);
        check.faulty(0, "sheet;", 0, -1);
        check.faulty(0, "sheet 1 2 3 4 5", 1, 15);
        check.faulty(2, "row;", 0, -1);
        check.faulty(2, "row;;", 1, 4);
        check.faulty(1, "sheet;", 1, 0);
        check.faulty(3, "row;", 1, 0);
    }

    // -2 for another sort.
    private static void counts() {
        StencilHouse house = new StencilHouse();
        for (int sort : OUTSIDE) {
            check.due("count " + sort, house.count(sort), -2);
        }
        check.due("count 4", house.count(4), -2);
        for (int sort = 0; sort < 4; sort++) {
            for (int many = 0; many <= 3; many++) {
                check.due("count " + sort, house.count(sort), Math.min(many, 2));
                Check.tell(house, sort, -1, GOOD[sort]);
                Check.tell(house, sort, 0, GOOD[sort]);
            }
        }
    }

    // All that is told (the tape, the FAULT, too), as it is now.
    private static void images() {
        StencilHouse house = new StencilHouse();
        for (int sort = 0; sort < 4; sort++) {
            check.told(house, sort, GOOD[sort]);
            check.told(house, sort, "");
        }
        Check.tell(house, 2, -1, "");
        Check.tell(house, 2, 0, "row 10;");
        Check.tape(house, "row 3;?");
        house.end(6);
        check.due("image(1)", house.image(1), true);
        for (int sort = 0; sort < 4; sort++) {
            Check.tell(house, sort, 0, "");
            Check.tell(house, sort, 1, GOOD[sort]);
        }
        house.feed(0, 0, 0, 0, 0);
        check.due("again(1)", house.again(1), true);
        int[] shop = {2, 4, 0, 1};
        int[] other = {3, 3, 0, 0};
        for (int what = 0; what < 4; what++) {
            check.due("shop " + what, house.shop(0, what), shop[what]);
            check.due("other shop " + what, house.shop(1, what), other[what]);
        }
        check.due("CUT", house.shop(0, 10), 3);
        check.due("OPEN", house.shop(0, 30), 3);
        check.due("WEAR", house.shop(0, 40), 9);
        check.due("DEEDS", house.deed(0, -1, 0), 2);
        check.due("DEED 1", house.deed(0, 1, 0), 1);
        check.due("other DAY", house.deed(1, -1, 0), 0);
        check.due("PICTURE", house.picture(0, 1, 0), 7);
        check.due("other PICTURE", house.picture(1, 1, 0), 0);
        check.due("MARKS", house.mark(0, -1, 0), 1);
        check.due("other MARKS", house.mark(1, -1, 0), 0);
        check.due("FAULT", house.fault(0), 2);
        check.due("its place", house.fault(1), 4);
        check.due("tape", house.end(7), -1);
        check.due("tape", house.end(6), 6);
        check.due("its text", house.text(2, 1), 1);
        check.due("told by it", house.picture(1, 0, 0), 3);
        // A cell's right and lower ones are of the shop that is there again.
        check.due("EDGE", house.holes(0, 0, 2), 6);
    }

    // Image k (0 .. 2); false for another k, or if there is none such: nothing is otherwise then.
    private static void imagesThatWereNotMade() {
        StencilHouse house = check.house("slip 4;");
        int[] others = {-1, 3, 4, -2, Integer.MIN_VALUE, Integer.MAX_VALUE};
        Check.tape(house, "slip 5;");
        for (int k : others) {
            check.due("image(" + k + ")", house.image(k), false);
            check.due("again(" + k + ")", house.again(k), false);
        }
        for (int k = 0; k < 3; k++) {
            check.due("again(" + k + ")", house.again(k), false);
        }
        check.due("image(1)", house.image(1), true);
        check.due("text", house.text(0, -1), 1);
        check.due("again(0)", house.again(0), false);
        check.due("again(2)", house.again(2), false);
        check.due("as it was", house.count(0), 2);
        check.due("as it was", house.shop(1, 2), 5);
    }

    // Images are not told: one that goes back leaves the others, and it may be gone back to again.
    private static void imagesStandAlone() {
        StencilHouse house = new StencilHouse();
        for (int k = 0; k < 3; k++) {
            Check.tell(house, 0, k == 0 ? -1 : 0, "slip " + k + ";");
            check.due("image", house.image(k), true);
        }
        int[] turns = {0, 2, 1, 0, 1, 2, 2};
        for (int k : turns) {
            check.due("again", house.again(k), true);
            check.due("SLIP at image " + k, house.shop(0, 2), k);
            Check.tell(house, 0, 0, "slip 9;sheet 1;");
            Check.tell(house, 0, -1, "");
        }
        check.due("image anew", house.image(0), true);
        check.due("again(1)", house.again(1), true);
        check.due("one of image 1", house.count(0), 1);
        check.due("again(0)", house.again(0), true);
        check.due("two of the new image 0", house.count(0), 2);
        check.due("its SLIP", house.shop(0, 2), 9);
        check.due("again(2)", house.again(2), true);
        check.due("SLIP of image 2", house.shop(0, 2), 2);
    }
}
