/** What all tests of the project share: answers held against what is due, and texts typed. */
final class Check {
    private int wrong = 0;
    private int held = 0;

    void due(String call, long got, long want) {
        held++;
        if (got != want) {
            wrong++;
            System.out.println(call + " answered " + got + ", due is " + want);
        }
    }

    int held() {
        return held;
    }

    void finish(String name) {
        System.out.println(name + ": " + held + " answers, " + wrong + " wrong");
        System.exit(wrong == 0 ? 0 : 1);
    }

    static void tell(PhraseSwaps x, String text) {
        for (int k = 0; k < text.length(); k++) {
            x.type(text.charAt(k));
        }
    }

    static int job(PhraseSwaps x, String text) {
        tell(x, text);
        return x.job();
    }

    static int rule(PhraseSwaps x, String text) {
        tell(x, text);
        return x.rule();
    }

    static PhraseSwaps of(String text) {
        PhraseSwaps x = new PhraseSwaps();
        job(x, text);
        return x;
    }

    /** THE LINE as a text. */
    static String line(PhraseSwaps x) {
        StringBuilder text = new StringBuilder();
        int size = x.count(0);
        for (int k = 0; k < size; k++) {
            text.append((char) x.at(k, 0));
        }
        return text.toString();
    }

    /** The SOURCES of THE LINE, with a blank behind each. */
    static String sources(PhraseSwaps x) {
        StringBuilder text = new StringBuilder();
        int size = x.count(0);
        for (int k = 0; k < size; k++) {
            text.append(x.at(k, 1)).append(' ');
        }
        return text.toString();
    }

    /** The PHRASE of a RULE (what 0), or what it GIVES (1), as a text. */
    static String spelt(PhraseSwaps x, int rule, int what) {
        StringBuilder text = new StringBuilder();
        int size = x.of(rule, what + 1);
        for (int k = 0; k < size; k++) {
            text.append((char) x.spelt(rule, what, k));
        }
        return text.toString();
    }

    /** What COMES as a text. */
    static String made(PhraseSwaps x) {
        StringBuilder text = new StringBuilder();
        int length = x.comes(0, 0);
        for (int k = 0; k < length; k++) {
            text.append((char) x.comes(1, k));
        }
        return text.toString();
    }

    void dueText(String call, String got, String want) {
        held++;
        if (!got.equals(want)) {
            wrong++;
            System.out.println(call + " answered '" + got + "', due is '" + want + "'");
        }
    }

    /** Writes a text to a new row of a SHEET, an item a letter. */
    static void write(PhraseSwaps x, int sheet, int lane, int size, String text) {
        x.sheet(sheet, lane, size);
        for (int k = 0; k < text.length(); k++) {
            x.item(sheet, lane, k, text.charAt(k));
        }
    }

    static String many(String part, int times) {
        return part.repeat(times);
    }
}
