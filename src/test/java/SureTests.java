import java.util.ArrayList;
import java.util.List;
import java.util.Random;

/** Promise 20, by its words alone: every end over a small alphabet is tried behind the letters that have come. */
public final class SureTests {
    private static final Check check = new Check();
    private static final String LETTERS = "ab_";
    private static final int LONGEST_PHRASE = 3;

    public static void main(String[] args) {
        List<String> ends = ends();
        for (int seed = 0; seed < 400; seed++) {
            tryOne(new Random(seed), ends);
        }
        check.finish("SureTests");
    }

    /** A phrase may need all its letters and one behind it; 'q' stands for letters that no phrase has. */
    private static List<String> ends() {
        List<String> ends = new ArrayList<>(List.of(""));
        int done = 0;
        for (int length = 1; length <= LONGEST_PHRASE + 1; length++) {
            int known = ends.size();
            for (int k = done; k < known; k++) {
                for (char letter : (LETTERS + "q").toCharArray()) {
                    ends.add(ends.get(k) + letter);
                }
            }
            done = known;
        }
        return ends;
    }

    private static String word(Random chance, int least, int most) {
        StringBuilder word = new StringBuilder();
        int size = least + chance.nextInt(most - least + 1);
        for (int k = 0; k < size; k++) {
            word.append(LETTERS.charAt(chance.nextInt(3)));
        }
        return word.toString();
    }

    private static void tryOne(Random chance, List<String> ends) {
        String line = word(chance, 0, 7);
        StringBuilder text = new StringBuilder(line);
        List<Model.Swap> swaps = new ArrayList<>();
        List<Boolean> on = new ArrayList<>();
        int rules = 1 + chance.nextInt(4);
        for (int k = 0; k < rules; k++) {
            Model.Swap swap = new Model.Swap(chance.nextInt(5), word(chance, 1, LONGEST_PHRASE), "");
            swaps.add(swap);
            on.add(true);
            text.append(';').append("pwfto".charAt(swap.kind())).append(':').append(swap.phrase()).append('=');
        }
        PhraseSwaps x = Check.of(text.toString());
        for (int n = 0; n <= line.length(); n++) {
            check.due("sure " + n + " of " + text, x.sure(n), sure(line.substring(0, n), ends, swaps, on));
        }
    }

    private static int sure(String known, List<String> ends, List<Model.Swap> swaps, List<Boolean> on) {
        List<int[]> all = new ArrayList<>();
        for (String end : ends) {
            List<Integer> sources = new ArrayList<>();
            for (int k = 0; k < known.length() + end.length(); k++) {
                sources.add(k);
            }
            all.add(Model.go(known + end, sources, swaps, on).usedAt());
        }
        int place = 0;
        while (place < known.length()) {
            int rule = all.get(0)[place];
            for (int[] used : all) {
                if (used[place] != rule) {
                    return place;
                }
            }
            place += rule < 0 ? 1 : swaps.get(rule).phrase().length();
        }
        return place;
    }
}
