public final class StencilHouse {
    public static final int NONE = -1;

    private static final int NOT_THERE = -2;
    private static final int NO_DUEL = -99;

    private static final int MOST_TAPE = 600;
    private static final int FED_BYTES = 20;
    private static final int MOST_OF_A_SORT = 2;
    private static final int MOST_IMAGES = 3;
    private static final int MOST_SIDE = 5;
    private static final int MOST_CELLS = 25;
    private static final int MOST_SHEETS = 6;
    private static final int MOST_DEEDS = 40;
    private static final int MOST_MARKS = 8;
    private static final int MOST_ORDERS = 720;
    private static final int MOST_BRIDGES = 3;
    private static final int MOST_TURNS = 6;
    private static final int MOST_DRAWN = 60;
    private static final int COLOURS = 10;
    private static final int DEED_PARTS = 4;

    private static final int SHOPS = 0;
    private static final int DAYS = 1;
    private static final int PICTURES = 2;
    private static final int MARKS = 3;
    private static final int SORTS = 4;

    private static final int SPRAY = 0;
    private static final int FLIP = 1;
    private static final int TURN = 2;
    private static final int SLIDE = 3;
    private static final int PATCH = 4;
    private static final int WASH = 5;

    private final Told told = new Told();
    private final Told[] images = new Told[MOST_IMAGES];
    private final Reader reader = new Reader();
    private final Wall wall = new Wall();
    private final Orders orders = new Orders();

    public StencilHouse() {
    }

    public int feed(int a, int b, int c, int d, int e) {
        if (told.tapeLength + FED_BYTES > MOST_TAPE) {
            return NONE;
        }
        told.append(a);
        told.append(b);
        told.append(c);
        told.append(d);
        told.append(e);
        return told.tapeLength;
    }

    public int end(int n) {
        if (n < 0 || n > told.tapeLength) {
            return NONE;
        }
        told.tapeLength = n;
        return n;
    }

    public int text(int sort, int at) {
        int length = told.tapeLength;
        told.tapeLength = 0;
        told.fault = 0;
        told.faultPlace = NONE;
        if (!told.hasPlaceFor(sort, at)) {
            return NOT_THERE;
        }
        reader.read(told.tape, length, sort);
        if (reader.fault != 0) {
            told.fault = reader.fault;
            told.faultPlace = reader.faultPlace;
            return NONE;
        }
        return told.take(reader, sort, at);
    }

    public int fault(int what) {
        switch (what) {
            case 0: return told.fault;
            case 1: return told.faultPlace;
            default: return NONE;
        }
    }

    public int shop(int shop, int what) {
        Shop of = told.shopAt(shop);
        if (of == null) {
            return NONE;
        }
        switch (what) {
            case 0: return of.columns;
            case 1: return of.rows;
            case 2: return of.slip;
            case 3: return of.sheetCount;
            default: return of.tellSheet(what);
        }
    }

    public int deed(int day, int k, int what) {
        Day of = told.dayAt(day);
        if (of == null) {
            return NOT_THERE;
        }
        if (k == NONE && what == 0) {
            return of.deedCount;
        }
        if (k < 0 || k >= of.deedCount || what < 0 || what >= DEED_PARTS) {
            return NOT_THERE;
        }
        return of.part(k, what);
    }

    public int stop(int shop, int day) {
        Shop of = told.shopAt(shop);
        Day by = told.dayAt(day);
        if (of == null || by == null) {
            return NONE;
        }
        wall.begin(of);
        return wall.run(by, by.deedCount);
    }

    public int state(int shop, int day, int n, int what) {
        Shop of = told.shopAt(shop);
        Day by = told.dayAt(day);
        if (of == null || by == null || n < 0 || n > by.deedCount) {
            return NONE;
        }
        wall.begin(of);
        if (wall.run(by, n) < n) {
            return NONE;
        }
        return wall.tell(what);
    }

    public int bridges(int shop, int sheet, boolean which) {
        Shop of = told.shopAt(shop);
        if (of == null || !of.hasSheet(sheet)) {
            return NONE;
        }
        int patches = Figures.fewestPatches(of, of.cut[sheet]);
        if (which || patches == NONE) {
            return patches;
        }
        return Integer.bitCount(patches);
    }

    public int make(int shop, int picture, int k) {
        Shop of = told.shopAt(shop);
        Picture by = told.pictureAt(picture);
        if (of == null || by == null) {
            return NONE;
        }
        int sprays = orders.fewestSprays(of, by);
        if (k == NONE || sprays == NONE) {
            return sprays;
        }
        return orders.foundAt(k);
    }

    public int cover(int shop, boolean which) {
        Shop of = told.shopAt(shop);
        if (of == null) {
            return NONE;
        }
        int set = Figures.fewestCovering(of);
        return which ? set : Integer.bitCount(set);
    }

    public int atOnce(int shop, boolean which) {
        Shop of = told.shopAt(shop);
        if (of == null) {
            return NONE;
        }
        int set = Figures.mostApart(of);
        return which ? set : Integer.bitCount(set);
    }

    public int duel(int shop, int n, boolean first) {
        Shop of = told.shopAt(shop);
        if (of == null || n < 0 || n > MOST_TURNS) {
            return NO_DUEL;
        }
        return first ? Figures.duelFirst(of, n) : Figures.duelWorth(of, n);
    }

    public int chance(int shop, int cell, int colour, boolean under) {
        Shop of = told.shopAt(shop);
        if (of == null || !of.hasCell(cell) || colour < 0 || colour > MOST_SHEETS) {
            return NONE;
        }
        int over = Figures.chanceOver(of, cell, colour);
        int below = Figures.chanceUnder(of, colour);
        int shared = Figures.greatestDivisor(over, below);
        if (shared <= 0) {
            return NONE;
        }
        return (under ? below : over) / shared;
    }

    public int within(int shop, int a, int b) {
        Shop of = told.shopAt(shop);
        if (of == null || !of.hasSheet(a) || !of.hasSheet(b)) {
            return NONE;
        }
        return Figures.slidesWithin(of, of.open[a], of.open[b]);
    }

    public int picture(int picture, int x, int y) {
        Picture of = told.pictureAt(picture);
        if (of == null || x < 0 || x >= MOST_SIDE || y < 0 || y >= MOST_SIDE) {
            return NONE;
        }
        return of.colourAt(x, y);
    }

    public int mark(int marks, int k, int what) {
        Marks of = told.marksAt(marks);
        if (of == null) {
            return NOT_THERE;
        }
        if (k == NONE && what == 0) {
            return of.markCount;
        }
        if (!of.hasMark(k)) {
            return NOT_THERE;
        }
        switch (what) {
            case 0: return of.sheet[k] == NONE ? 1 : 0;
            case 1: return of.column[k];
            case 2: return of.row[k];
            case 3: return of.sheet[k];
            default: return NOT_THERE;
        }
    }

    public int fits(int shop, int marks, int what) {
        Shop of = told.shopAt(shop);
        Marks by = told.marksAt(marks);
        if (of == null || by == null) {
            return NOT_THERE;
        }
        return orders.tellFitting(of, by, what);
    }

    public int drawn(int shop, int seed, int n, int what) {
        Shop of = told.shopAt(shop);
        if (of == null || n < 0 || n > MOST_DRAWN) {
            return NONE;
        }
        wall.begin(of);
        wall.runDrawn(seed, n);
        return wall.tell(what);
    }

    public int holes(int shop, int sheet, int what) {
        Shop of = told.shopAt(shop);
        if (of == null || !of.hasSheet(sheet)) {
            return NONE;
        }
        int open = of.open[sheet];
        switch (what) {
            case 0: return Figures.holeCount(of, open);
            case 1: return Figures.largestHole(of, open);
            case 2: return Figures.edge(of, open);
            case 3: return Figures.strokeCount(of, open);
            case 4: return Figures.longestStroke(of, open);
            default: return NONE;
        }
    }

    public int sheets(int shop, int what) {
        Shop of = told.shopAt(shop);
        if (of == null) {
            return NOT_THERE;
        }
        switch (what) {
            case 0: return Figures.mirrored(of);
            case 1: return Figures.turnedAlike(of);
            case 2: return Figures.twins(of);
            case 3: return Figures.openToAll(of);
            case 4: return of.all & ~of.union(of.everySheet());
            case 5: return Figures.fallingSheets(of);
            case 6: return Figures.needed(of);
            case 7: return Figures.stackCell(of);
            case 8: return Figures.openCount(of, Figures.stackCell(of));
            case 9: return Figures.nearestTwo(of);
            case 10: return Figures.nearestUnlike(of);
            case 11: return Figures.hiddenSheets(of);
            default: return NOT_THERE;
        }
    }

    public int unlike(int shop, int a, int b) {
        Shop of = told.shopAt(shop);
        if (of == null || !of.hasSheet(a) || !of.hasSheet(b)) {
            return NONE;
        }
        return Integer.bitCount(of.open[a] ^ of.open[b]);
    }

    public int seen(int shop, int sheet) {
        Shop of = told.shopAt(shop);
        if (of == null || !of.hasSheet(sheet)) {
            return NONE;
        }
        return Integer.bitCount(Figures.onTop(of, sheet));
    }

    public int show(int shop, int k) {
        Shop of = told.shopAt(shop);
        if (of == null) {
            return NONE;
        }
        int most = orders.mostShown(of);
        return k == NONE ? most : orders.foundAt(k);
    }

    public int colours(int picture, int what) {
        Picture of = told.pictureAt(picture);
        if (of == null) {
            return NOT_THERE;
        }
        switch (what) {
            case 0: return of.colourCount();
            case 1: return of.commonest();
            default: return NOT_THERE;
        }
    }

    public int plain(int shop, int picture, int colour) {
        Shop of = told.shopAt(shop);
        Picture by = told.pictureAt(picture);
        if (of == null || by == null || colour < 1 || colour >= COLOURS) {
            return NONE;
        }
        int cut = by.cellsOf(of, colour);
        if (Integer.bitCount(cut) < by.placesOf(colour)) {
            return NONE;
        }
        return Integer.bitCount(of.falling(cut));
    }

    public int off(int shop, int picture) {
        Shop of = told.shopAt(shop);
        Picture by = told.pictureAt(picture);
        if (of == null || by == null) {
            return NONE;
        }
        return Figures.offCount(of, by);
    }

    public int after(int shop, int day, int what) {
        Shop of = told.shopAt(shop);
        Day by = told.dayAt(day);
        if (of == null || by == null) {
            return NOT_THERE;
        }
        wall.begin(of);
        wall.run(by, by.deedCount);
        switch (what) {
            case 0: return wall.firstOver;
            case 1: return wall.busiest();
            case 2: return wall.over;
            case 3: return wall.washed;
            case 4: return Integer.bitCount(of.all & ~wall.painted());
            case 5: return wall.tornSheets();
            default: return NOT_THERE;
        }
    }

    public int count(int sort) {
        if (sort < 0 || sort >= SORTS) {
            return NOT_THERE;
        }
        return told.counts[sort];
    }

    public boolean image(int k) {
        if (k < 0 || k >= MOST_IMAGES) {
            return false;
        }
        Told kept = images[k];
        if (kept == null) {
            kept = new Told();
            images[k] = kept;
        }
        kept.copyFrom(told);
        return true;
    }

    public boolean again(int k) {
        if (k < 0 || k >= MOST_IMAGES) {
            return false;
        }
        Told kept = images[k];
        if (kept == null) {
            return false;
        }
        told.copyFrom(kept);
        return true;
    }

    /** All that an image holds: the tape, the fault and what was told. */
    private static final class Told {
        final int[] tape = new int[MOST_TAPE];
        int tapeLength = 0;
        int fault = 0;
        int faultPlace = NONE;
        final int[] counts = new int[SORTS];
        final Shop[] shopList = new Shop[MOST_OF_A_SORT];
        final Day[] dayList = new Day[MOST_OF_A_SORT];
        final Picture[] pictureList = new Picture[MOST_OF_A_SORT];
        final Marks[] marksList = new Marks[MOST_OF_A_SORT];

        Told() {
            for (int k = 0; k < MOST_OF_A_SORT; k++) {
                shopList[k] = new Shop();
                dayList[k] = new Day();
                pictureList[k] = new Picture();
                marksList[k] = new Marks();
            }
        }

        void copyFrom(Told other) {
            System.arraycopy(other.tape, 0, tape, 0, MOST_TAPE);
            tapeLength = other.tapeLength;
            fault = other.fault;
            faultPlace = other.faultPlace;
            System.arraycopy(other.counts, 0, counts, 0, SORTS);
            for (int k = 0; k < MOST_OF_A_SORT; k++) {
                shopList[k].copyFrom(other.shopList[k]);
                dayList[k].copyFrom(other.dayList[k]);
                pictureList[k].copyFrom(other.pictureList[k]);
                marksList[k].copyFrom(other.marksList[k]);
            }
        }

        void append(int number) {
            for (int shift = 24; shift >= 0 && tapeLength < MOST_TAPE; shift -= 8) {
                tape[tapeLength] = number >>> shift & 255;
                tapeLength++;
            }
        }

        boolean has(int sort, int k) {
            return k >= 0 && k < counts[sort] && k < MOST_OF_A_SORT;
        }

        boolean hasPlaceFor(int sort, int at) {
            if (sort < 0 || sort >= SORTS) {
                return false;
            }
            return at == NONE ? counts[sort] < MOST_OF_A_SORT : has(sort, at);
        }

        int take(Reader reader, int sort, int at) {
            if (!hasPlaceFor(sort, at)) {
                return NOT_THERE;
            }
            int number = at == NONE ? counts[sort] : at;
            switch (sort) {
                case SHOPS: shopList[number].copyFrom(reader.shopRead); break;
                case DAYS: dayList[number].copyFrom(reader.dayRead); break;
                case PICTURES: pictureList[number].copyFrom(reader.pictureRead); break;
                default: marksList[number].copyFrom(reader.marksRead); break;
            }
            if (at == NONE) {
                counts[sort]++;
            }
            return number;
        }

        Shop shopAt(int k) {
            return has(SHOPS, k) ? shopList[k] : null;
        }

        Day dayAt(int k) {
            return has(DAYS, k) ? dayList[k] : null;
        }

        Picture pictureAt(int k) {
            return has(PICTURES, k) ? pictureList[k] : null;
        }

        Marks marksAt(int k) {
            return has(MARKS, k) ? marksList[k] : null;
        }
    }

    /** The tokens of a tape, one after another. */
    private static final class Tokens {
        static final int WORD = 0;
        static final int NUMBER = 1;
        static final int LINE_END = 2;
        static final int TAPE_END = 3;
        static final int NO_TOKEN = 4;

        private int[] tape = new int[0];
        private int length = 0;
        private int behind = 0;
        int kind = TAPE_END;
        int place = 0;
        int value = 0;

        void begin(int[] of, int itsLength) {
            tape = of;
            length = Math.min(itsLength, of.length);
            behind = 0;
            next();
        }

        void next() {
            place = behind;
            while (place < length && isBlank(tape[place])) {
                place++;
            }
            behind = place;
            if (place >= length) {
                kind = TAPE_END;
            } else if (isLetter(tape[place])) {
                nextWord();
            } else if (isDigit(tape[place])) {
                nextNumber();
            } else {
                kind = tape[place] == ';' ? LINE_END : NO_TOKEN;
                behind++;
            }
        }

        private void nextWord() {
            kind = WORD;
            while (behind < length && isLetter(tape[behind])) {
                behind++;
            }
        }

        private void nextNumber() {
            value = 0;
            while (behind < length && isDigit(tape[behind])) {
                // No more than two digits tell a number, so a longer row need not be summed up.
                if (behind - place < 2) {
                    value = value * 10 + tape[behind] - '0';
                }
                behind++;
            }
            kind = behind - place > 2 ? NO_TOKEN : NUMBER;
        }

        boolean isWord(String word) {
            if (kind != WORD || behind - place != word.length()) {
                return false;
            }
            for (int i = 0; i < word.length(); i++) {
                if (tape[place + i] != word.charAt(i)) {
                    return false;
                }
            }
            return true;
        }

        private static boolean isBlank(int sign) {
            return sign == 10 || sign == 32;
        }

        private static boolean isLetter(int sign) {
            return sign >= 'a' && sign <= 'z';
        }

        private static boolean isDigit(int sign) {
            return sign >= '0' && sign <= '9';
        }
    }

    /** Reads a text of a sort into rows of its own, so that a fault leaves what was told before. */
    private static final class Reader {
        private static final int SIZE_WORD = 0;
        private static final int SLIP_WORD = 1;
        private static final int SHEET_WORD = 2;
        private static final int WEAR_WORD = 3;
        private static final int SPRAY_WORD = 4;
        private static final int ROW_WORD = 10;
        private static final int TOP_WORD = 11;
        private static final int BARE_WORD = 12;
        private static final int ANY = -1;

        private static final int[] FIRST_WORD_OF_SORT = {0, 4, 10, 11, 13};
        private static final int[] NUMBERS_OF_WORD = {2, 1, ANY, 2, 2, 1, 1, 3, 3, 1, ANY, 3, 2};
        private static final int[] LEAST = {
            1, 1, 0, 0, 0, 0, 0, 0, 0, 0, 1, 0,
            0, 1, 0, 0, 0, 0, 0, 0, 0, 0, 0, 0, 0, 0, 0, 1, 0, 0,
            0, 0, 0,
            0, 0, 0, 0, 0, 0};
        private static final int[] GREATEST = {
            5, 5, 0, 10, 0, 0, 31, 0, 0, 5, 9, 0,
            5, 9, 0, 5, 0, 0, 5, 0, 0, 5, 4, 4, 5, 4, 4, 9, 0, 0,
            9, 0, 0,
            4, 4, 5, 4, 4, 0};

        final Shop shopRead = new Shop();
        final Day dayRead = new Day();
        final Picture pictureRead = new Picture();
        final Marks marksRead = new Marks();
        int fault = 0;
        int faultPlace = NONE;
        private final Tokens tokens = new Tokens();
        private final int[] sheetRows = new int[MOST_SHEETS * MOST_SIDE];
        private final int[] numbers = new int[MOST_SIDE];
        private int wornSheets = 0;
        private int pictureRows = 0;

        void read(int[] tape, int length, int sort) {
            clear();
            tokens.begin(tape, length);
            for (int line = 0; line <= MOST_TAPE && tokens.kind != Tokens.TAPE_END; line++) {
                if (!readLine(sort)) {
                    fault = 1;
                    faultPlace = tokens.place;
                    return;
                }
            }
            if (fault == 0 && sort == SHOPS) {
                shopRead.measure();
                checkShop(tokens.place);
                shopRead.openSheets();
            }
        }

        private void clear() {
            fault = 0;
            faultPlace = NONE;
            wornSheets = 0;
            pictureRows = 0;
            for (int i = 0; i < sheetRows.length; i++) {
                sheetRows[i] = 0;
            }
            shopRead.clear();
            dayRead.deedCount = 0;
            pictureRead.clear();
            marksRead.markCount = 0;
        }

        private boolean readLine(int sort) {
            int word = wordOfSort(sort);
            if (word == NONE) {
                return false;
            }
            if (!hasRoomFor(word)) {
                note(3, tokens.place);
            }
            for (int i = 0; i < numbers.length; i++) {
                numbers[i] = NONE;
            }
            tokens.next();
            int wanted = NUMBERS_OF_WORD[word];
            int most = wanted == ANY ? MOST_TAPE : wanted;
            int got = 0;
            while (got < most && tokens.kind == Tokens.NUMBER) {
                takeNumber(word, got);
                got++;
                tokens.next();
            }
            if (tokens.kind != Tokens.LINE_END || wanted != ANY && got < wanted) {
                return false;
            }
            if (fault == 0) {
                store(word, got);
            }
            tokens.next();
            return true;
        }

        private int wordOfSort(int sort) {
            if (sort < 0 || sort >= SORTS) {
                return NONE;
            }
            for (int word = FIRST_WORD_OF_SORT[sort]; word < FIRST_WORD_OF_SORT[sort + 1]; word++) {
                if (tokens.isWord(spelling(word))) {
                    return word;
                }
            }
            return NONE;
        }

        private static String spelling(int word) {
            switch (word) {
                case SIZE_WORD: return "size";
                case SLIP_WORD: return "slip";
                case SHEET_WORD: return "sheet";
                case WEAR_WORD: return "wear";
                case SPRAY_WORD + SPRAY: return "spray";
                case SPRAY_WORD + FLIP: return "flip";
                case SPRAY_WORD + TURN: return "turn";
                case SPRAY_WORD + SLIDE: return "slide";
                case SPRAY_WORD + PATCH: return "patch";
                case SPRAY_WORD + WASH: return "wash";
                case ROW_WORD: return "row";
                case TOP_WORD: return "top";
                default: return "bare";
            }
        }

        private boolean hasRoomFor(int word) {
            switch (word) {
                case SIZE_WORD:
                case SLIP_WORD:
                case WEAR_WORD: return true;
                case SHEET_WORD: return shopRead.sheetCount < MOST_SHEETS;
                case ROW_WORD: return pictureRows < MOST_SIDE;
                case TOP_WORD:
                case BARE_WORD: return marksRead.markCount < MOST_MARKS;
                default: return dayRead.deedCount < MOST_DEEDS;
            }
        }

        private void takeNumber(int word, int k) {
            int limit = word * 3 + (NUMBERS_OF_WORD[word] == ANY ? 0 : k);
            if (tokens.value < LEAST[limit] || tokens.value > GREATEST[limit]) {
                note(2, tokens.place);
            } else if (k >= numbers.length) {
                note(3, tokens.place);
            }
            if (k < numbers.length) {
                numbers[k] = tokens.value;
            }
        }

        // Tokens come by place, and at one place fault 2 is looked for before fault 3.
        private void note(int code, int place) {
            if (fault == 0) {
                fault = code;
                faultPlace = place;
            }
        }

        private void store(int word, int got) {
            switch (word) {
                case SIZE_WORD:
                    shopRead.columns = numbers[0];
                    shopRead.rows = numbers[1];
                    break;
                case SLIP_WORD: shopRead.slip = numbers[0]; break;
                case SHEET_WORD: storeSheet(got); break;
                case WEAR_WORD: storeWear(numbers[0], numbers[1]); break;
                case ROW_WORD: storeRow(got); break;
                case TOP_WORD:
                case BARE_WORD: marksRead.add(numbers[0], numbers[1], numbers[2]); break;
                default: dayRead.add(word - SPRAY_WORD, numbers[0], numbers[1], numbers[2]); break;
            }
        }

        private void storeSheet(int got) {
            if (shopRead.sheetCount >= MOST_SHEETS) {
                return;
            }
            for (int row = 0; row < got && row < MOST_SIDE; row++) {
                sheetRows[shopRead.sheetCount * MOST_SIDE + row] = numbers[row];
            }
            shopRead.sheetCount++;
        }

        private void storeWear(int sheet, int often) {
            if (sheet >= 0 && sheet < MOST_SHEETS) {
                shopRead.wear[sheet] = often;
                wornSheets |= 1 << sheet;
            }
        }

        private void storeRow(int got) {
            if (pictureRows >= MOST_SIDE) {
                return;
            }
            for (int column = 0; column < got && column < MOST_SIDE; column++) {
                pictureRead.colour[pictureRows * MOST_SIDE + column] = numbers[column];
            }
            pictureRows++;
        }

        private void checkShop(int place) {
            if (wornSheets >> shopRead.sheetCount != 0) {
                note(4, place);
            }
            for (int sheet = 0; sheet < shopRead.sheetCount; sheet++) {
                for (int row = 0; row < MOST_SIDE; row++) {
                    cutRow(sheet, row, place);
                }
            }
        }

        // Only here, since a size told behind the sheets counts for them too.
        private void cutRow(int sheet, int row, int place) {
            int bits = sheetRows[sheet * MOST_SIDE + row];
            if (bits == 0) {
                return;
            }
            if (row >= shopRead.rows || bits >> shopRead.columns != 0) {
                note(5, place);
                return;
            }
            shopRead.cut[sheet] |= bits << row * shopRead.columns;
        }
    }

    /** A shop as told; sets of cells are bits by the cells' numbers, cells of any row of bits. */
    private static final class Shop {
        int columns = 3;
        int rows = 3;
        int slip = 0;
        int sheetCount = 0;
        final int[] cut = new int[MOST_SHEETS];
        final int[] wear = new int[MOST_SHEETS];
        final int[] open = new int[MOST_SHEETS];
        int all = 0;
        private int left = 0;
        private int right = 0;
        private int rim = 0;

        void clear() {
            columns = 3;
            rows = 3;
            slip = 0;
            sheetCount = 0;
            for (int sheet = 0; sheet < MOST_SHEETS; sheet++) {
                cut[sheet] = 0;
                wear[sheet] = 3;
                open[sheet] = 0;
            }
        }

        void copyFrom(Shop other) {
            columns = other.columns;
            rows = other.rows;
            slip = other.slip;
            sheetCount = other.sheetCount;
            System.arraycopy(other.cut, 0, cut, 0, MOST_SHEETS);
            System.arraycopy(other.wear, 0, wear, 0, MOST_SHEETS);
            System.arraycopy(other.open, 0, open, 0, MOST_SHEETS);
            all = other.all;
            left = other.left;
            right = other.right;
            rim = other.rim;
        }

        void measure() {
            all = (1 << columns * rows) - 1;
            left = 0;
            right = 0;
            for (int row = 0; row < rows; row++) {
                left |= 1 << row * columns;
                right |= 1 << row * columns + columns - 1;
            }
            int top = (1 << columns) - 1;
            rim = left | right | top | top << (rows - 1) * columns;
        }

        void openSheets() {
            for (int sheet = 0; sheet < sheetCount; sheet++) {
                open[sheet] = opened(cut[sheet]);
            }
        }

        boolean hasSheet(int sheet) {
            return sheet >= 0 && sheet < sheetCount && sheet < MOST_SHEETS;
        }

        boolean hasCell(int cell) {
            return cell >= 0 && cell < columns * rows;
        }

        boolean hasPlace(int column, int row) {
            return column >= 0 && column < columns && row >= 0 && row < rows;
        }

        boolean isOpen(int sheet, int cell) {
            return hasSheet(sheet) && (open[sheet] >> cell & 1) != 0;
        }

        int everySheet() {
            return (1 << sheetCount) - 1;
        }

        int union(int set) {
            int together = 0;
            for (int sheet = 0; sheet < sheetCount; sheet++) {
                if ((set >> sheet & 1) != 0) {
                    together |= open[sheet];
                }
            }
            return together;
        }

        private int beside(int cells) {
            int across = (cells & ~right) << 1 | (cells & ~left) >>> 1;
            return (across | cells << columns | cells >>> columns) & all;
        }

        int falling(int cutCells) {
            return opened(cutCells) & ~cutCells;
        }

        // What is not held is cut or falls, and so is open.
        int opened(int cutCells) {
            int solid = all & ~cutCells;
            return all & ~grown(solid & rim, solid);
        }

        // A step that adds no cell is the last; each before it adds one or more.
        int grown(int from, int among) {
            int held = from;
            for (int step = 0; step < MOST_CELLS; step++) {
                int wider = (held | beside(held)) & among;
                if (wider == held) {
                    return held;
                }
                held = wider;
            }
            return held;
        }

        int slid(int cells, int across, int down) {
            int moved = cells;
            for (int step = 0; step < across && step < MOST_SIDE; step++) {
                moved = (moved & ~right) << 1;
            }
            for (int step = 0; step < down && step < MOST_SIDE; step++) {
                moved = moved << columns & all;
            }
            return moved;
        }

        int flipped(int cells) {
            int result = 0;
            for (int row = 0; row < rows; row++) {
                for (int column = 0; column < columns; column++) {
                    int bit = cells >> row * columns + column & 1;
                    result |= bit << row * columns + columns - 1 - column;
                }
            }
            return result;
        }

        int turned(int cells) {
            int last = columns * rows - 1;
            int result = 0;
            for (int cell = 0; cell <= last; cell++) {
                result |= (cells >> cell & 1) << last - cell;
            }
            return result;
        }

        int tellSheet(int what) {
            int sheet = what % 10;
            if (what < 10 || what >= 50 || !hasSheet(sheet)) {
                return NONE;
            }
            switch (what / 10) {
                case 1: return cut[sheet];
                case 2: return falling(cut[sheet]);
                case 3: return open[sheet];
                default: return wear[sheet];
            }
        }
    }

    private static final class Day {
        int deedCount = 0;
        private final int[] parts = new int[MOST_DEEDS * DEED_PARTS];

        void add(int kind, int a, int b, int c) {
            if (deedCount >= MOST_DEEDS) {
                return;
            }
            int from = deedCount * DEED_PARTS;
            parts[from] = kind;
            parts[from + 1] = a;
            parts[from + 2] = b;
            parts[from + 3] = c;
            deedCount++;
        }

        int part(int k, int which) {
            int at = k * DEED_PARTS + which;
            return at >= 0 && at < parts.length ? parts[at] : NONE;
        }

        void copyFrom(Day other) {
            deedCount = other.deedCount;
            System.arraycopy(other.parts, 0, parts, 0, parts.length);
        }
    }

    private static final class Picture {
        final int[] colour = new int[MOST_SIDE * MOST_SIDE];

        void clear() {
            for (int i = 0; i < colour.length; i++) {
                colour[i] = 0;
            }
        }

        void copyFrom(Picture other) {
            System.arraycopy(other.colour, 0, colour, 0, colour.length);
        }

        int colourAt(int column, int row) {
            int at = row * MOST_SIDE + column;
            return at >= 0 && at < colour.length ? colour[at] : 0;
        }

        int placesOf(int which) {
            int places = 0;
            for (int i = 0; i < colour.length; i++) {
                if (colour[i] == which) {
                    places++;
                }
            }
            return places;
        }

        int cellsOf(Shop shop, int which) {
            int cells = 0;
            for (int row = 0; row < shop.rows; row++) {
                for (int column = 0; column < shop.columns; column++) {
                    if (colourAt(column, row) == which) {
                        cells |= 1 << row * shop.columns + column;
                    }
                }
            }
            return cells;
        }

        boolean isWithin(Shop shop) {
            for (int row = 0; row < MOST_SIDE; row++) {
                for (int column = 0; column < MOST_SIDE; column++) {
                    if (colourAt(column, row) != 0 && !shop.hasPlace(column, row)) {
                        return false;
                    }
                }
            }
            return true;
        }

        int colourCount() {
            int found = 0;
            for (int which = 1; which < COLOURS; which++) {
                if (placesOf(which) > 0) {
                    found++;
                }
            }
            return found;
        }

        int commonest() {
            int best = NONE;
            int most = 0;
            for (int which = 1; which < COLOURS; which++) {
                int places = placesOf(which);
                if (places > most) {
                    most = places;
                    best = which;
                }
            }
            return best;
        }
    }

    /** Marks; a bare one has NONE for its sheet. */
    private static final class Marks {
        int markCount = 0;
        final int[] column = new int[MOST_MARKS];
        final int[] row = new int[MOST_MARKS];
        final int[] sheet = new int[MOST_MARKS];

        void add(int itsColumn, int itsRow, int itsSheet) {
            if (markCount >= MOST_MARKS) {
                return;
            }
            column[markCount] = itsColumn;
            row[markCount] = itsRow;
            sheet[markCount] = itsSheet;
            markCount++;
        }

        boolean hasMark(int k) {
            return k >= 0 && k < markCount && k < MOST_MARKS;
        }

        void copyFrom(Marks other) {
            markCount = other.markCount;
            System.arraycopy(other.column, 0, column, 0, MOST_MARKS);
            System.arraycopy(other.row, 0, row, 0, MOST_MARKS);
            System.arraycopy(other.sheet, 0, sheet, 0, MOST_MARKS);
        }
    }

    /** The wall and the sheets of a shop while a day goes on. */
    private static final class Wall {
        private static final int[] KIND_DRAWN = {SPRAY, SPRAY, SPRAY, SPRAY, FLIP, TURN, SLIDE, SLIDE, PATCH, WASH};

        private Shop shop = new Shop();
        private final int[] cellsOf = new int[COLOURS];
        private final int[] cut = new int[MOST_SHEETS];
        private final int[] sprayed = new int[MOST_SHEETS];
        private final int[] across = new int[MOST_SHEETS];
        private final int[] down = new int[MOST_SHEETS];
        private int deedsDone = 0;
        private int sprayCount = 0;
        private int seed = 0;
        int firstOver = NONE;
        int over = 0;
        int washed = 0;

        void begin(Shop of) {
            shop = of;
            for (int colour = 0; colour < COLOURS; colour++) {
                cellsOf[colour] = 0;
            }
            for (int sheet = 0; sheet < MOST_SHEETS; sheet++) {
                cut[sheet] = of.cut[sheet];
                sprayed[sheet] = 0;
                across[sheet] = 0;
                down[sheet] = 0;
            }
            deedsDone = 0;
            sprayCount = 0;
            firstOver = NONE;
            over = 0;
            washed = 0;
        }

        int run(Day day, int most) {
            while (deedsDone < most && deedsDone < day.deedCount) {
                int k = deedsDone;
                if (!act(day.part(k, 0), day.part(k, 1), day.part(k, 2), day.part(k, 3))) {
                    return deedsDone;
                }
                deedsDone++;
            }
            return deedsDone;
        }

        // Each draws as many numbers as its kind needs, whether it may then or not.
        void runDrawn(int from, int times) {
            seed = from;
            for (int i = 0; i < times; i++) {
                int kind = KIND_DRAWN[draw(KIND_DRAWN.length)];
                boolean hasPlace = kind == SLIDE || kind == PATCH;
                if (kind == WASH || shop.sheetCount > 0) {
                    int a = kind == WASH ? drawColour() : draw(shop.sheetCount);
                    int b = kind == SPRAY ? drawColour() : hasPlace ? draw(MOST_SIDE) : NONE;
                    int c = hasPlace ? draw(MOST_SIDE) : NONE;
                    act(kind, a, b, c);
                }
            }
        }

        private int drawColour() {
            return 1 + draw(COLOURS - 1);
        }

        private int draw(int below) {
            seed = seed * 1103515245 + 12345;
            return below > 0 ? (seed >>> 16) % below : 0;
        }

        private boolean act(int kind, int a, int b, int c) {
            if (kind == WASH) {
                return washOff(a);
            }
            if (!shop.hasSheet(a)) {
                return false;
            }
            switch (kind) {
                case SPRAY: return sprayOn(a, b);
                case FLIP: cut[a] = shop.flipped(cut[a]); return true;
                case TURN: cut[a] = shop.turned(cut[a]); return true;
                case SLIDE: return slideTo(a, b, c);
                case PATCH: return patchAt(a, b, c);
                default: return false;
            }
        }

        private boolean washOff(int colour) {
            if (colour < 1 || colour >= COLOURS || cellsOf[colour] == 0) {
                return false;
            }
            washed += Integer.bitCount(cellsOf[colour]);
            cellsOf[colour] = 0;
            return true;
        }

        private boolean sprayOn(int sheet, int colour) {
            if (colour < 1 || colour >= COLOURS || sprayed[sheet] >= shop.wear[sheet]) {
                return false;
            }
            int cells = openNow(sheet);
            for (int other = 1; other < COLOURS; other++) {
                if (other != colour) {
                    overlay(other, cells);
                }
            }
            cellsOf[colour] |= cells;
            sprayed[sheet]++;
            sprayCount++;
            return true;
        }

        private void overlay(int other, int cells) {
            int hit = cellsOf[other] & cells;
            if (hit != 0 && firstOver == NONE) {
                firstOver = deedsDone;
            }
            over += Integer.bitCount(hit);
            cellsOf[other] &= ~cells;
        }

        private boolean slideTo(int sheet, int column, int row) {
            if (across[sheet] == column && down[sheet] == row) {
                return false;
            }
            across[sheet] = column;
            down[sheet] = row;
            return true;
        }

        private boolean patchAt(int sheet, int column, int row) {
            if (!shop.hasPlace(column, row)) {
                return false;
            }
            int bit = 1 << row * shop.columns + column;
            if ((cut[sheet] & bit) == 0) {
                return false;
            }
            cut[sheet] &= ~bit;
            return true;
        }

        private int openNow(int sheet) {
            return shop.slid(shop.opened(cut[sheet]), across[sheet], down[sheet]);
        }

        int painted() {
            int cells = 0;
            for (int colour = 1; colour < COLOURS; colour++) {
                cells |= cellsOf[colour];
            }
            return cells;
        }

        int busiest() {
            int best = NONE;
            int most = 0;
            for (int sheet = 0; sheet < shop.sheetCount; sheet++) {
                if (sprayed[sheet] > most) {
                    most = sprayed[sheet];
                    best = sheet;
                }
            }
            return best;
        }

        int tornSheets() {
            int torn = 0;
            for (int sheet = 0; sheet < shop.sheetCount; sheet++) {
                if (sprayed[sheet] >= shop.wear[sheet]) {
                    torn |= 1 << sheet;
                }
            }
            return torn;
        }

        int tell(int what) {
            if (what == 0) {
                return sprayCount;
            }
            if (what == 1) {
                return Integer.bitCount(painted());
            }
            if (what >= 100) {
                return colourOf(what - 100);
            }
            int sheet = what % 10;
            if (what < 10 || what >= 50 || !shop.hasSheet(sheet)) {
                return NONE;
            }
            switch (what / 10) {
                case 1: return cut[sheet];
                case 2: return openNow(sheet);
                case 3: return sprayed[sheet];
                default: return across[sheet] * 10 + down[sheet];
            }
        }

        private int colourOf(int cell) {
            if (!shop.hasCell(cell)) {
                return NONE;
            }
            for (int colour = 1; colour < COLOURS; colour++) {
                if ((cellsOf[colour] >> cell & 1) != 0) {
                    return colour;
                }
            }
            return 0;
        }
    }

    /** Rows of sheets, one after another by numbers, and what asks for one of them, which is kept as found. */
    private static final class Orders {
        private static final int NO_SHEET = MOST_SHEETS;
        private static final int TOPS = MOST_SHEETS + 1;

        private final int[] items = new int[MOST_SHEETS];
        private final int[] found = new int[MOST_SHEETS];
        private final int[] spraysMade = new int[MOST_SHEETS];
        private final int[] wanted = new int[COLOURS];
        private final int[] tops = new int[MOST_CELLS * TOPS];
        private int size = 0;
        private int length = 0;

        private void begin(int itsSize, int itsLength) {
            size = Math.min(itsSize, MOST_SHEETS);
            length = Math.min(itsLength, size);
            fill(0, 0);
        }

        // The next row by numbers changes the last place that can grow, and takes the least behind it.
        private boolean advance() {
            int used = 0;
            for (int i = 0; i < length; i++) {
                used |= 1 << items[i];
            }
            for (int i = length - 1; i >= 0; i--) {
                used &= ~(1 << items[i]);
                int next = leastUnused(used, items[i] + 1);
                if (next < size) {
                    items[i] = next;
                    fill(i + 1, used | 1 << next);
                    return true;
                }
            }
            return false;
        }

        private void fill(int from, int used) {
            int taken = used;
            for (int i = from; i < length; i++) {
                items[i] = leastUnused(taken, 0);
                taken |= 1 << items[i];
            }
        }

        private int leastUnused(int used, int from) {
            int next = from;
            while (next < size && (used >> next & 1) != 0) {
                next++;
            }
            return next;
        }

        int fewestSprays(Shop shop, Picture picture) {
            if (!picture.isWithin(shop)) {
                return NONE;
            }
            for (int colour = 0; colour < COLOURS; colour++) {
                wanted[colour] = picture.cellsOf(shop, colour);
            }
            for (int sprays = 0; sprays <= shop.sheetCount; sprays++) {
                if (findSprays(shop, sprays)) {
                    return sprays;
                }
            }
            return NONE;
        }

        // A row of sheets that comes earlier may have a greater colour at its first spray, so all are looked at.
        private boolean findSprays(Shop shop, int sprays) {
            boolean any = false;
            boolean more = true;
            begin(shop.sheetCount, sprays);
            for (int turn = 0; turn < MOST_ORDERS && more; turn++) {
                if (makesWanted(shop) && (!any || isLessThanFound())) {
                    any = true;
                    System.arraycopy(spraysMade, 0, found, 0, length);
                }
                more = advance();
            }
            return any;
        }

        private boolean isLessThanFound() {
            for (int i = 0; i < length; i++) {
                if (spraysMade[i] != found[i]) {
                    return spraysMade[i] < found[i];
                }
            }
            return false;
        }

        // From the last spray back, what shows of each sheet tells its one colour;
        // a sheet that shows nowhere would not be in a row with the fewest sprays.
        private boolean makesWanted(Shop shop) {
            int covered = 0;
            for (int i = length - 1; i >= 0; i--) {
                int shown = shop.open[items[i]] & ~covered;
                int colour = colourOfAll(shown);
                if (shown == 0 || colour == NONE) {
                    return false;
                }
                spraysMade[i] = items[i] * 10 + colour;
                covered |= shown;
            }
            return (shop.all & ~covered & ~wanted[0]) == 0;
        }

        private int colourOfAll(int cells) {
            for (int colour = 1; colour < COLOURS; colour++) {
                if ((cells & ~wanted[colour]) == 0) {
                    return colour;
                }
            }
            return NONE;
        }

        int mostShown(Shop shop) {
            int most = NONE;
            boolean more = true;
            begin(shop.sheetCount, shop.sheetCount);
            for (int turn = 0; turn < MOST_ORDERS && more; turn++) {
                int shown = shownCount(shop);
                if (shown > most) {
                    most = shown;
                    System.arraycopy(items, 0, found, 0, length);
                }
                more = advance();
            }
            return most;
        }

        private int shownCount(Shop shop) {
            int covered = 0;
            int shown = 0;
            for (int i = length - 1; i >= 0; i--) {
                int open = shop.open[items[i]];
                if ((open & ~covered) != 0) {
                    shown++;
                }
                covered |= open;
            }
            return shown;
        }

        int foundAt(int k) {
            return k >= 0 && k < length ? found[k] : NONE;
        }

        int tellFitting(Shop shop, Marks marks, int what) {
            int fitting = 0;
            int sure = NONE;
            boolean more = true;
            clearTops();
            begin(shop.sheetCount, shop.sheetCount);
            for (int turn = 0; turn < MOST_ORDERS && more; turn++) {
                if (fitsAll(shop, marks)) {
                    if (what == 10 + fitting) {
                        return asNumber();
                    }
                    sure = fitting == 0 || sure == lastItem() ? lastItem() : NONE;
                    if (what == 2) {
                        countTops(shop);
                    }
                    fitting++;
                }
                more = advance();
            }
            switch (what) {
                case 0: return fitting;
                case 1: return sure;
                case 2: return fitting == 0 ? NONE : cellToAsk(shop);
                default: return NOT_THERE;
            }
        }

        private int lastItem() {
            return length > 0 ? items[length - 1] : NONE;
        }

        private int asNumber() {
            int number = 1;
            for (int i = 0; i < length; i++) {
                number = number * 10 + items[i];
            }
            return number;
        }

        private boolean fitsAll(Shop shop, Marks marks) {
            for (int k = 0; k < marks.markCount; k++) {
                if (!shop.hasPlace(marks.column[k], marks.row[k])) {
                    return false;
                }
                int cell = marks.row[k] * shop.columns + marks.column[k];
                if (topAt(shop, cell) != marks.sheet[k]) {
                    return false;
                }
            }
            return true;
        }

        private int topAt(Shop shop, int cell) {
            for (int i = length - 1; i >= 0; i--) {
                if (shop.isOpen(items[i], cell)) {
                    return items[i];
                }
            }
            return NONE;
        }

        private void clearTops() {
            for (int i = 0; i < tops.length; i++) {
                tops[i] = 0;
            }
        }

        private void countTops(Shop shop) {
            int cells = shop.columns * shop.rows;
            for (int cell = 0; cell < cells; cell++) {
                int top = topAt(shop, cell);
                tops[cell * TOPS + (top == NONE ? NO_SHEET : top)]++;
            }
        }

        private int cellToAsk(Shop shop) {
            int best = NONE;
            int least = MOST_ORDERS + 1;
            int cells = shop.columns * shop.rows;
            for (int cell = 0; cell < cells; cell++) {
                int greatest = 0;
                for (int top = 0; top < TOPS; top++) {
                    greatest = Math.max(greatest, tops[cell * TOPS + top]);
                }
                if (greatest < least) {
                    least = greatest;
                    best = cell;
                }
            }
            return best;
        }
    }

    /** Figures of a shop as told. */
    private static final class Figures {
        private static final int NOTHING_SPRAYED = 6;
        private static final int BEYOND_WORTH = 99;

        static int fewestPatches(Shop shop, int cut) {
            for (int patches = 0; patches <= MOST_BRIDGES; patches++) {
                int least = leastPatches(shop, cut, patches, MOST_CELLS);
                if (least != NONE) {
                    return least;
                }
            }
            return NONE;
        }

        // The highest cell is chosen first and grows slowest, so the first set found is the least number.
        private static int leastPatches(Shop shop, int cut, int patches, int below) {
            if (patches <= 0) {
                return shop.falling(cut) == 0 ? 0 : NONE;
            }
            for (int cell = 0; cell < below; cell++) {
                int bit = 1 << cell;
                if ((cut & bit) != 0) {
                    int rest = leastPatches(shop, cut & ~bit, patches - 1, cell);
                    if (rest != NONE) {
                        return rest | bit;
                    }
                }
            }
            return NONE;
        }

        static int fewestCovering(Shop shop) {
            int every = shop.everySheet();
            int together = shop.union(every);
            int best = every;
            for (int set = 0; set <= every; set++) {
                if (Integer.bitCount(set) < Integer.bitCount(best) && shop.union(set) == together) {
                    best = set;
                }
            }
            return best;
        }

        static int mostApart(Shop shop) {
            int every = shop.everySheet();
            int best = 0;
            for (int set = 0; set <= every; set++) {
                if (Integer.bitCount(set) > Integer.bitCount(best) && liesApart(shop, set)) {
                    best = set;
                }
            }
            return best;
        }

        private static boolean liesApart(Shop shop, int set) {
            int taken = 0;
            for (int sheet = 0; sheet < shop.sheetCount; sheet++) {
                if ((set >> sheet & 1) != 0) {
                    if ((taken & shop.open[sheet]) != 0) {
                        return false;
                    }
                    taken |= shop.open[sheet];
                }
            }
            return true;
        }

        static int duelWorth(Shop shop, int turns) {
            return bestWorth(shop, turns, 0, 0, 0, -BEYOND_WORTH, BEYOND_WORTH);
        }

        static int duelFirst(Shop shop, int turns) {
            if (turns <= 0) {
                return NONE;
            }
            int worth = duelWorth(shop, turns);
            for (int sheet = 0; sheet < shop.sheetCount; sheet++) {
                int reply = bestWorth(shop, turns - 1, 1 << sheet, 0, shop.open[sheet], -BEYOND_WORTH, BEYOND_WORTH);
                if (-reply == worth) {
                    return sheet;
                }
            }
            return NOTHING_SPRAYED;
        }

        // Worth is told for whose turn it is; once it reaches the roof, the other one would not have come here.
        private static int bestWorth(Shop shop, int turns, int used, int mine, int theirs, int floor, int roof) {
            if (turns <= 0) {
                return Integer.bitCount(mine) - Integer.bitCount(theirs);
            }
            int best = -bestWorth(shop, turns - 1, used, theirs, mine, -roof, -floor);
            for (int sheet = 0; sheet < shop.sheetCount && best < roof; sheet++) {
                if ((used >> sheet & 1) == 0) {
                    int open = shop.open[sheet];
                    int lower = Math.max(floor, best);
                    int worth = -bestWorth(shop, turns - 1, used | 1 << sheet, theirs & ~open, mine | open, -roof, -lower);
                    best = Math.max(best, worth);
                }
            }
            return best;
        }

        static int chanceOver(Shop shop, int cell, int colour) {
            if (colour > shop.sheetCount) {
                return 0;
            }
            int over = colour == 0 ? 1 : openTenths(shop, colour - 1, cell);
            for (int sheet = colour; sheet < shop.sheetCount; sheet++) {
                over *= 10 - openTenths(shop, sheet, cell);
            }
            return over;
        }

        static int chanceUnder(Shop shop, int colour) {
            int under = colour == 0 ? 1 : 10;
            for (int sheet = colour; sheet < shop.sheetCount; sheet++) {
                under *= 10;
            }
            return under;
        }

        private static int openTenths(Shop shop, int sheet, int cell) {
            int open = shop.open[sheet];
            int lying = open >> cell & 1;
            int slipped = shop.slid(open, 1, 0) >> cell & 1;
            return (10 - shop.slip) * lying + shop.slip * slipped;
        }

        static int greatestDivisor(int a, int b) {
            int greater = a;
            int lesser = b;
            // Two steps halve the greater one at least, so 64 are enough for any two numbers.
            for (int step = 0; step < 64 && lesser > 0; step++) {
                int rest = greater % lesser;
                greater = lesser;
                lesser = rest;
            }
            return greater;
        }

        static int slidesWithin(Shop shop, int open, int around) {
            int slides = 0;
            for (int down = 0; down < MOST_SIDE; down++) {
                for (int across = 0; across < MOST_SIDE; across++) {
                    int moved = shop.slid(open, across, down);
                    if (moved != 0 && (moved & ~around) == 0) {
                        slides++;
                    }
                }
            }
            return slides;
        }

        static int holeCount(Shop shop, int open) {
            int holes = 0;
            int left = open;
            for (int cell = 0; cell < MOST_CELLS; cell++) {
                if ((left >> cell & 1) != 0) {
                    holes++;
                    left &= ~shop.grown(1 << cell, left);
                }
            }
            return holes;
        }

        static int largestHole(Shop shop, int open) {
            int largest = 0;
            int left = open;
            for (int cell = 0; cell < MOST_CELLS; cell++) {
                if ((left >> cell & 1) != 0) {
                    int hole = shop.grown(1 << cell, left);
                    largest = Math.max(largest, Integer.bitCount(hole));
                    left &= ~hole;
                }
            }
            return largest;
        }

        static int edge(Shop shop, int open) {
            int sides = 0;
            for (int row = 0; row < shop.rows; row++) {
                for (int column = 0; column < shop.columns; column++) {
                    if (isOpenAt(shop, open, column, row)) {
                        sides += isOpenAt(shop, open, column - 1, row) ? 0 : 1;
                        sides += isOpenAt(shop, open, column + 1, row) ? 0 : 1;
                        sides += isOpenAt(shop, open, column, row - 1) ? 0 : 1;
                        sides += isOpenAt(shop, open, column, row + 1) ? 0 : 1;
                    }
                }
            }
            return sides;
        }

        private static boolean isOpenAt(Shop shop, int open, int column, int row) {
            return shop.hasPlace(column, row) && (open >> row * shop.columns + column & 1) != 0;
        }

        static int strokeCount(Shop shop, int open) {
            int strokes = 0;
            for (int row = 0; row < shop.rows; row++) {
                for (int column = 0; column < shop.columns; column++) {
                    if (isOpenAt(shop, open, column, row) && !isOpenAt(shop, open, column - 1, row)) {
                        strokes++;
                    }
                }
            }
            return strokes;
        }

        static int longestStroke(Shop shop, int open) {
            int longest = 0;
            for (int row = 0; row < shop.rows; row++) {
                int stroke = 0;
                for (int column = 0; column < shop.columns; column++) {
                    stroke = isOpenAt(shop, open, column, row) ? stroke + 1 : 0;
                    longest = Math.max(longest, stroke);
                }
            }
            return longest;
        }

        static int mirrored(Shop shop) {
            int set = 0;
            for (int sheet = 0; sheet < shop.sheetCount; sheet++) {
                if (shop.flipped(shop.cut[sheet]) == shop.cut[sheet]) {
                    set |= 1 << sheet;
                }
            }
            return set;
        }

        static int turnedAlike(Shop shop) {
            int set = 0;
            for (int sheet = 0; sheet < shop.sheetCount; sheet++) {
                if (shop.turned(shop.cut[sheet]) == shop.cut[sheet]) {
                    set |= 1 << sheet;
                }
            }
            return set;
        }

        static int twins(Shop shop) {
            int couples = 0;
            for (int a = 0; a < shop.sheetCount; a++) {
                for (int b = a + 1; b < shop.sheetCount; b++) {
                    if (areTwins(shop, shop.cut[a], shop.cut[b])) {
                        couples++;
                    }
                }
            }
            return couples;
        }

        private static boolean areTwins(Shop shop, int a, int b) {
            int flipped = shop.flipped(b);
            return a == b || a == flipped || a == shop.turned(b) || a == shop.turned(flipped);
        }

        static int openToAll(Shop shop) {
            int cells = shop.sheetCount == 0 ? 0 : shop.all;
            for (int sheet = 0; sheet < shop.sheetCount; sheet++) {
                cells &= shop.open[sheet];
            }
            return cells;
        }

        static int fallingSheets(Shop shop) {
            int set = 0;
            for (int sheet = 0; sheet < shop.sheetCount; sheet++) {
                if (shop.falling(shop.cut[sheet]) != 0) {
                    set |= 1 << sheet;
                }
            }
            return set;
        }

        static int needed(Shop shop) {
            int set = 0;
            int every = shop.everySheet();
            for (int sheet = 0; sheet < shop.sheetCount; sheet++) {
                if ((shop.open[sheet] & ~shop.union(every & ~(1 << sheet))) != 0) {
                    set |= 1 << sheet;
                }
            }
            return set;
        }

        static int openCount(Shop shop, int cell) {
            int sheets = 0;
            for (int sheet = 0; sheet < shop.sheetCount; sheet++) {
                if (shop.isOpen(sheet, cell)) {
                    sheets++;
                }
            }
            return sheets;
        }

        static int stackCell(Shop shop) {
            int best = 0;
            int cells = shop.columns * shop.rows;
            for (int cell = 1; cell < cells; cell++) {
                if (openCount(shop, cell) > openCount(shop, best)) {
                    best = cell;
                }
            }
            return best;
        }

        static int nearestTwo(Shop shop) {
            int best = NONE;
            int least = MOST_CELLS + 1;
            for (int a = 0; a < shop.sheetCount; a++) {
                for (int b = a + 1; b < shop.sheetCount; b++) {
                    int apart = Integer.bitCount(shop.open[a] ^ shop.open[b]);
                    if (apart < least) {
                        least = apart;
                        best = a * 10 + b;
                    }
                }
            }
            return best;
        }

        static int nearestUnlike(Shop shop) {
            int two = nearestTwo(shop);
            if (two == NONE || !shop.hasSheet(two / 10) || !shop.hasSheet(two % 10)) {
                return 0;
            }
            return Integer.bitCount(shop.open[two / 10] ^ shop.open[two % 10]);
        }

        static int onTop(Shop shop, int sheet) {
            int later = shop.everySheet() & ~((2 << sheet) - 1);
            return shop.open[sheet] & ~shop.union(later);
        }

        static int hiddenSheets(Shop shop) {
            int set = 0;
            for (int sheet = 0; sheet < shop.sheetCount; sheet++) {
                if (onTop(shop, sheet) == 0) {
                    set |= 1 << sheet;
                }
            }
            return set;
        }

        static int offCount(Shop shop, Picture picture) {
            int alike = shop.all & ~shop.union(shop.everySheet()) & picture.cellsOf(shop, 0);
            for (int sheet = 0; sheet < shop.sheetCount; sheet++) {
                alike |= onTop(shop, sheet) & picture.cellsOf(shop, sheet + 1);
            }
            return Integer.bitCount(shop.all & ~alike);
        }
    }
}
