/** What the tests share: counting wrong answers, and telling texts by feed, end and text. */
final class Check {
    private int wrong = 0;

    void due(String call, long got, long want) {
        if (got != want) {
            wrong++;
            System.out.println(call + " answered " + got + ", due is " + want);
        }
    }

    void due(String call, boolean got, boolean want) {
        due(call, got ? 1 : 0, want ? 1 : 0);
    }

    void finish() {
        System.out.println(wrong == 0 ? "all answers are as due" : wrong + " answers are not as due");
        if (wrong != 0) {
            System.exit(1);
        }
    }

    /** Puts a text alone on an empty tape. */
    static void tape(StencilHouse house, String text) {
        house.end(0);
        int length = text.length();
        for (int from = 0; from < length; from += 20) {
            int[] words = new int[5];
            for (int i = 0; i < 20; i++) {
                int sign = from + i < length ? text.charAt(from + i) : ' ';
                words[i / 4] = words[i / 4] << 8 | sign & 255;
            }
            house.feed(words[0], words[1], words[2], words[3], words[4]);
        }
        house.end(length);
    }

    static int tell(StencilHouse house, int sort, int at, String text) {
        tape(house, text);
        return house.text(sort, at);
    }

    /** Tells a text that must be good, as a further one. */
    int told(StencilHouse house, int sort, String text) {
        int number = tell(house, sort, -1, text);
        if (number < 0) {
            due("text(" + text + ")", number, 0);
        }
        return number;
    }

    /** A new object that was told shops. */
    StencilHouse house(String... shops) {
        StencilHouse house = new StencilHouse();
        for (String shop : shops) {
            told(house, 0, shop);
        }
        return house;
    }

    void faulty(int sort, String text, int fault, int place) {
        StencilHouse house = new StencilHouse();
        due("text of '" + text + "'", tell(house, sort, -1, text), fault == 0 ? 0 : -1);
        due("fault(0) of '" + text + "'", house.fault(0), fault);
        due("fault(1) of '" + text + "'", house.fault(1), place);
        due("count after '" + text + "'", house.count(sort), fault == 0 ? 1 : 0);
        due("tape after '" + text + "'", house.end(1), -1);
    }
}
