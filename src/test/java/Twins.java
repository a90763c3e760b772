import java.util.function.Consumer;
import java.util.function.ToLongFunction;

/**
 * Two objects told the same story, of which one is told something more; then all that can be asked is asked of both.
 * So a test shows that a call changed nothing, not even what only a later undo, restore or job would bring to light.
 */
final class Twins {
    private static final String[] ROWS = {"abc", "xyz_", ""};
    private static final int[] LANES = {0, 1, 3};

    private final Check check;

    Twins(Check check) {
        this.check = check;
    }

    /** Something of everything: a line that was gone through, a rule that is OFF, a PILE, an IMAGE, SHEETS; no TAPE. */
    static void story(PhraseSwaps x) {
        Check.job(x, "ab_ab;w:ab=xyz;p:b=q;o:a=");
        x.turn(2);
        x.image();
        x.change(0, 'b');
        x.pass(2);
        x.pile(0);
        x.put(1);
        x.put(0);
        sheets(x);
    }

    static void storyWithTape(PhraseSwaps x) {
        story(x);
        Check.tell(x, "z_;f:z=");
    }

    /** SHEETS 0 to 2 hold rows, the last of them of no items; SHEET 3 holds nothing. */
    static void sheets(PhraseSwaps x) {
        for (int k = 0; k < ROWS.length; k++) {
            Check.write(x, k, LANES[k], ROWS[k].length(), ROWS[k]);
        }
    }

    /** After the story the call answers so, and changes nothing. */
    void refuses(String name, Consumer<PhraseSwaps> story, ToLongFunction<PhraseSwaps> call, long due) {
        alike(name, story, x -> {
            story.accept(x);
            check.due(name, call.applyAsLong(x), due);
        });
    }

    void refuses(String name, ToLongFunction<PhraseSwaps> call, long due) {
        refuses(name, Twins::storyWithTape, call, due);
    }

    /** Both stories leave an object of which nothing can be told apart. */
    void alike(String name, Consumer<PhraseSwaps> one, Consumer<PhraseSwaps> other) {
        PhraseSwaps x = new PhraseSwaps();
        PhraseSwaps y = new PhraseSwaps();
        one.accept(x);
        other.accept(y);
        check.dueText(name + ": all that is told", all(y), all(x));
    }

    /** Asks for all; the object is spent then. */
    private static String all(PhraseSwaps x) {
        StringBuilder told = new StringBuilder(state(x));
        lanes(x, told);
        undoAll(x, told);
        told.append(" restored ").append(x.restore());
        moment(x, told);
        undoAll(x, told);
        told.append(" typed ").append(x.type(' ')).append(" job ").append(x.job());
        told.append(state(x));
        rows(x, told);
        return told.toString();
    }

    /** What can be asked without a change. */
    private static String state(PhraseSwaps x) {
        StringBuilder told = new StringBuilder(" counts");
        for (int what = 0; what <= 6; what++) {
            told.append(' ').append(x.count(what));
        }
        told.append(" line ").append(Check.line(x)).append(' ').append(Check.sources(x));
        for (int rule = 0; rule < x.count(1); rule++) {
            told.append(" rule");
            for (int what = 0; what <= 3; what++) {
                told.append(' ').append(x.of(rule, what));
            }
            told.append(' ').append(Check.spelt(x, rule, 0)).append('=').append(Check.spelt(x, rule, 1));
        }
        return told.toString();
    }

    private static void lanes(PhraseSwaps x, StringBuilder told) {
        told.append(" sheets");
        for (int sheet = 0; sheet < 4; sheet++) {
            for (int lane = 0; lane < 4; lane++) {
                told.append(' ').append(x.item(sheet, lane, -1, 0));
            }
        }
    }

    /** The ends of THE LINE are enough here, and keep the calls of a long line few. */
    private static void moment(PhraseSwaps x, StringBuilder told) {
        int size = x.count(0);
        told.append(' ').append(size).append(' ').append(x.count(2)).append(' ').append(x.count(6));
        for (int place = 0; place < Math.min(size, 5); place++) {
            told.append(' ').append((char) x.at(place, 0)).append(x.at(place, 1));
        }
        told.append(' ').append(x.at(size - 1, 0)).append(' ').append(x.at(size - 1, 1));
    }

    private static void undoAll(PhraseSwaps x, StringBuilder told) {
        for (int left = x.undo(); left >= 0; left = x.undo()) {
            told.append(" undone ").append(left);
            moment(x, told);
        }
    }

    private static void rows(PhraseSwaps x, StringBuilder told) {
        for (int k = 0; k < ROWS.length; k++) {
            Check.job(x, ROWS[k] + ";p:aaaaaa=");
            told.append(" row ").append(x.came(0, k, LANES[k], 0, ROWS[k].length()));
        }
        for (int sheet = 0; sheet < 4; sheet++) {
            told.append(' ').append(x.drop(sheet));
        }
    }
}
