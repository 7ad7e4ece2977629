import java.util.NoSuchElementException;

/** Counts answers that are not the ones due, and ends the test with exit code 1 if there is one. */
final class Check {
    private static int wrong = 0;
    private static int asked = 0;
    private static String by = "";

    private Check() {
    }

    static void due(String call, long want, long got) {
        asked++;
        if (want != got) {
            wrong++;
            System.out.println(by + call + " answered " + got + ", due is " + want);
        }
    }

    static void due(String call, boolean want, boolean got) {
        due(call, want ? 1L : 0L, got ? 1L : 0L);
    }

    /** From here on answers are due by these words of the document, under this promise. */
    static void says(int promise, String words) {
        by = "promise " + promise + ", \"" + words + "\": ";
        Document.quote(promise, words);
    }

    /** Feeds a text to the TAPE, twenty bytes a call; answers what the last call did. */
    static int feed(ClogHouse house, String text) {
        int answer = house.count(8);
        for (int i = 0; i < text.length(); i += 20) {
            int[] row = new int[5];
            for (int j = i; j < Math.min(text.length(), i + 20); j++) {
                row[(j - i) / 4] |= (text.charAt(j) & 255) << (24 - 8 * ((j - i) % 4));
            }
            answer = house.feed(row[0], row[1], row[2], row[3], row[4]);
        }
        return answer;
    }

    static int faultOf(String text) {
        ClogHouse house = new ClogHouse();
        feed(house, text);
        return house.fault();
    }

    static int rulesOf(ClogHouse house, String text) {
        house.end(0);
        feed(house, text);
        return house.rules();
    }

    /** Gives a FILTER a text as its RULES. */
    static void ruled(ClogHouse house, int filter, String text) {
        house.rule(filter, rulesOf(house, text));
    }

    static boolean throwsNoSuch(ClogHouse house, int rules, int label) {
        try {
            house.worth(rules, label, 0, 0, 0, 0, 0, 0);
            return false;
        } catch (NoSuchElementException e) {
            return true;
        }
    }

    static void finish() {
        System.out.println(asked + " answers, " + wrong + " of them not as due");
        if (wrong != 0) {
            System.exit(1);
        }
    }
}
