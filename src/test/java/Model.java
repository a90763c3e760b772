import java.math.BigInteger;
import java.util.ArrayDeque;
import java.util.ArrayList;
import java.util.Deque;
import java.util.List;
import java.util.regex.Matcher;
import java.util.regex.Pattern;

/** The document told once more, as plainly and slowly as it can be, to hold the class against. */
final class Model {
    record Swap(int kind, String phrase, String gift) {
        String gives() {
            return kind == 3 ? new StringBuilder(gift).reverse().toString() : gift;
        }
    }

    record Made(String line, List<Integer> sources, int[] usedAt, int uses) { }

    record Moment(String line, List<Integer> sources, List<Boolean> on) { }

    record Image(Moment moment, List<Swap> swaps, List<Moment> past) { }

    private static final String RULE = "[pwfto]:[a-z_]{1,6}=[a-z_]{0,6}";
    private static final Pattern RULE_TEXT = Pattern.compile(RULE);
    private static final Pattern JOB_TEXT = Pattern.compile("[a-z_]{0,60}(;" + RULE + "){0,10}");

    private String line = "";
    private List<Integer> sources = new ArrayList<>();
    private List<Swap> swaps = new ArrayList<>();
    private List<Boolean> on = new ArrayList<>();
    private Deque<Moment> past = new ArrayDeque<>();
    private Image image = null;
    private String tape = "";
    private int pileSort = -4;
    private List<Integer> piled = new ArrayList<>();
    private final Object[] sheets = new Object[4];

    private static boolean isWord(String text, int place) {
        return place >= 0 && place < text.length() && text.charAt(place) != '_';
    }

    static boolean stands(Swap swap, String text, int place) {
        if (!text.startsWith(swap.phrase, place)) {
            return false;
        }
        boolean ahead = isWord(text, place - 1);
        boolean behind = isWord(text, place + swap.phrase.length());
        return swap.kind == 0 || !ahead && (swap.kind == 2 || swap.kind == 4 || !behind);
    }

    static Made go(String text, List<Integer> sources, List<Swap> swaps, List<Boolean> chosen) {
        StringBuilder made = new StringBuilder();
        List<Integer> from = new ArrayList<>();
        int[] usedAt = new int[text.length()];
        List<Integer> spent = new ArrayList<>();
        int uses = 0;
        int place = 0;
        while (place < text.length()) {
            int best = -4;
            for (int r = swaps.size() - 1; r >= 0; r--) {
                boolean may = chosen.get(r) && !spent.contains(r) && stands(swaps.get(r), text, place);
                if (may && (best < 0 || swaps.get(r).phrase.length() >= swaps.get(best).phrase.length())) {
                    best = r;
                }
            }
            usedAt[place] = best;
            String gives = best < 0 ? text.substring(place, place + 1) : swaps.get(best).gives();
            made.append(gives);
            for (int k = 0; k < gives.length(); k++) {
                from.add(sources.get(place));
            }
            int gone = best < 0 ? 1 : swaps.get(best).phrase.length();
            for (int k = 1; k < gone; k++) {
                usedAt[place + k] = -4;
            }
            if (best >= 0) {
                uses++;
                if (swaps.get(best).kind == 4) {
                    spent.add(best);
                }
            }
            place += gone;
        }
        return new Made(made.toString(), from, usedAt, uses);
    }

    private Made ahead() {
        return go(line, sources, swaps, on);
    }

    private static boolean in(int number, int least, int most) {
        return number >= least && number <= most;
    }

    private boolean isRule(int rule) {
        return in(rule, 0, swaps.size() - 1);
    }

    int type(int letter) {
        if (!in(letter, 32, 126)) {
            return -1;
        }
        if (tape.length() == 150) {
            return -3;
        }
        tape += (char) letter;
        return tape.length();
    }

    /** The tape without blanks, or a fault: the first sign with which no text of the pattern goes on. */
    private Object read(Pattern pattern) {
        String told = tape;
        tape = "";
        String taken = "";
        for (int k = 0; k < told.length(); k++) {
            if (told.charAt(k) != ' ') {
                taken += told.charAt(k);
                Matcher matcher = pattern.matcher(taken);
                if (!matcher.matches() && !matcher.hitEnd()) {
                    return -20 - k;
                }
            }
        }
        return pattern.matcher(taken).matches() ? taken : (Object) (-20 - told.length());
    }

    private static Swap swapOf(String text) {
        return new Swap("pwfto".indexOf(text.charAt(0)), text.substring(2, text.indexOf('=')), text.substring(text.indexOf('=') + 1));
    }

    int job() {
        Object read = read(JOB_TEXT);
        if (read instanceof Integer fault) {
            return fault;
        }
        String[] parts = ((String) read).split(";", -1);
        line = parts[0];
        sources = new ArrayList<>();
        for (int k = 0; k < line.length(); k++) {
            sources.add(k);
        }
        swaps = new ArrayList<>();
        on = new ArrayList<>();
        for (int k = 1; k < parts.length; k++) {
            swaps.add(swapOf(parts[k]));
            on.add(true);
        }
        past.clear();
        pileSort = -4;
        return swaps.size();
    }

    int rule() {
        Object read = read(RULE_TEXT);
        if (read instanceof Integer fault) {
            return fault;
        }
        if (swaps.size() == 10) {
            return -3;
        }
        swaps.add(swapOf((String) read));
        on.add(true);
        past.clear();
        return swaps.size() - 1;
    }

    private int usesOf(int rule) {
        int uses = 0;
        for (int used : ahead().usedAt) {
            uses += used == rule ? 1 : 0;
        }
        return uses;
    }

    int of(int rule, int what) {
        if (!isRule(rule) || !in(what, 0, 4)) {
            return -1;
        }
        Swap swap = swaps.get(rule);
        int[] answers = {swap.kind, swap.phrase.length(), swap.gift.length(), on.get(rule) ? 1 : 0, usesOf(rule)};
        return answers[what];
    }

    int spelt(int rule, int what, int k) {
        if (!isRule(rule) || !in(what, 0, 1) || !in(k, 0, 5)) {
            return -1;
        }
        String text = what == 0 ? swaps.get(rule).phrase : swaps.get(rule).gives();
        return k < text.length() ? text.charAt(k) : -4;
    }

    int at(int place, int what) {
        if (!in(place, 0, line.length() - 1) || !in(what, 0, 1)) {
            return -1;
        }
        return what == 0 ? line.charAt(place) : sources.get(place);
    }

    int count(int what) {
        int onSet = 0;
        int idle = 0;
        int pileSet = 0;
        for (int r = 0; r < swaps.size(); r++) {
            onSet += on.get(r) ? 1 << r : 0;
            idle += on.get(r) && usesOf(r) == 0 ? 1 << r : 0;
            pileSet += piled.contains(r) ? 1 << r : 0;
        }
        int[] answers = {line.length(), swaps.size(), onSet, idle, pileSort == -4 ? -4 : pileSet, pileSort, past.size()};
        return in(what, 0, 6) ? answers[what] : -1;
    }

    private Moment moment() {
        return new Moment(line, new ArrayList<>(sources), new ArrayList<>(on));
    }

    private void keep() {
        past.addLast(moment());
        if (past.size() > 8) {
            past.removeFirst();
        }
    }

    private void take(Moment moment) {
        line = moment.line;
        sources = new ArrayList<>(moment.sources);
        on = new ArrayList<>(moment.on);
    }

    int change(int place, int letter) {
        if (!in(place, 0, line.length() - 1) || !(in(letter, 'a', 'z') || letter == '_')) {
            return -1;
        }
        int was = line.charAt(place);
        if (was == letter) {
            return -2;
        }
        keep();
        line = line.substring(0, place) + (char) letter + line.substring(place + 1);
        return was;
    }

    int turn(int rule) {
        if (!isRule(rule)) {
            return -1;
        }
        keep();
        on.set(rule, !on.get(rule));
        return on.get(rule) ? 1 : 0;
    }

    private int passBy(List<Boolean> chosen) {
        List<Boolean> both = new ArrayList<>();
        for (int r = 0; r < swaps.size(); r++) {
            both.add(chosen.get(r) && on.get(r));
        }
        Made made = go(line, sources, swaps, both);
        if (made.line.length() > 60) {
            return -3;
        }
        keep();
        line = made.line;
        sources = made.sources;
        return made.uses;
    }

    int pass(int set) {
        if (set < 0 || set >= 1 << swaps.size()) {
            return -1;
        }
        List<Boolean> chosen = new ArrayList<>();
        for (int r = 0; r < swaps.size(); r++) {
            chosen.add((set & 1 << r) != 0);
        }
        return passBy(chosen);
    }

    private static boolean fits(int kind, int sort) {
        return sort == 0 || (sort == 1 ? List.of(1, 3) : List.of(2, 4)).contains(kind);
    }

    int pile(int sort) {
        if (!in(sort, 0, 2)) {
            return -1;
        }
        pileSort = sort;
        piled = new ArrayList<>();
        return (int) swaps.stream().filter(s -> fits(s.kind, sort)).count();
    }

    int put(int rule) {
        if (!isRule(rule)) {
            return -1;
        }
        if (pileSort == -4) {
            return -11;
        }
        if (piled.contains(rule)) {
            return -2;
        }
        if (piled.size() == 4) {
            return -13;
        }
        if (!fits(swaps.get(rule).kind, pileSort)) {
            return -15;
        }
        piled.add(rule);
        return piled.size();
    }

    int passPile() {
        if (pileSort == -4) {
            return -11;
        }
        List<Boolean> chosen = new ArrayList<>();
        for (int r = 0; r < swaps.size(); r++) {
            chosen.add(piled.contains(r));
        }
        return passBy(chosen);
    }

    int undo() {
        if (past.isEmpty()) {
            return -4;
        }
        take(past.removeLast());
        return past.size();
    }

    int comes(int what, int place) {
        Made made = ahead();
        int size = made.line.length();
        if (!in(what, 0, 3) || (what == 1 || what == 2) && !in(place, 0, size - 1)) {
            return -1;
        }
        return what == 0 ? size : what == 3 ? (size > 60 ? 0 : 1) : what == 1 ? made.line.charAt(place) : made.sources.get(place);
    }

    int used(int place) {
        return in(place, 0, line.length() - 1) ? ahead().usedAt[place] : -1;
    }

    int went(int source) {
        if (!in(source, 0, 59)) {
            return -1;
        }
        int place = ahead().sources.indexOf(source);
        return place < 0 ? -4 : place;
    }

    int rest() {
        String text = line;
        List<Integer> from = sources;
        for (int passes = 0; passes <= 20; passes++) {
            Made made = go(text, from, swaps, on);
            if (made.line.equals(text)) {
                return passes;
            }
            if (made.line.length() > 60) {
                return -4;
            }
            text = made.line;
            from = made.sources;
        }
        return -4;
    }

    /** Every end that could matter: for each rule the rest of its phrase from any cut on, alone or with a sign behind it. */
    private List<String> ends() {
        List<String> ends = new ArrayList<>(List.of("", "a", "_", "q"));
        for (Swap swap : swaps) {
            for (int cut = 0; cut < swap.phrase.length(); cut++) {
                String end = swap.phrase.substring(cut);
                ends.addAll(List.of(end, end + "q", end + "_"));
            }
        }
        return ends;
    }

    int sure(int n) {
        if (!in(n, 0, line.length())) {
            return -1;
        }
        String known = line.substring(0, n);
        List<int[]> all = new ArrayList<>();
        for (String end : ends()) {
            String text = known + end;
            List<Integer> from = new ArrayList<>();
            for (int k = 0; k < text.length(); k++) {
                from.add(k);
            }
            all.add(go(text, from, swaps, on).usedAt);
        }
        int place = 0;
        while (place < n) {
            for (int[] used : all) {
                if (used[place] != all.get(0)[place]) {
                    return place;
                }
            }
            int rule = all.get(0)[place];
            place += rule < 0 ? 1 : swaps.get(rule).phrase.length();
        }
        return place;
    }

    int lean(int what) {
        if (!in(what, 0, 1)) {
            return -1;
        }
        int[] best = null;
        for (int r = 0; r < swaps.size(); r++) {
            if (on.get(r)) {
                List<Boolean> without = new ArrayList<>(on);
                without.set(r, false);
                int size = go(line, sources, swaps, without).line.length();
                if (best == null || size < best[1]) {
                    best = new int[] {r, size};
                }
            }
        }
        return best == null ? -4 : best[what];
    }

    long longOdds(int m, int c, int what) {
        if (!in(m, 0, 360) || !in(c, 0, 10) || !in(what, 0, 1)) {
            return -1;
        }
        BigInteger above = chance(m, c, 0, new ArrayList<>());
        BigInteger below = BigInteger.TEN.pow((int) on.stream().filter(o -> o).count());
        BigInteger common = above.gcd(below);
        return (what == 0 ? above : below).divide(common).longValueExact();
    }

    private BigInteger chance(int m, int c, int rule, List<Boolean> chosen) {
        if (rule == swaps.size()) {
            return go(line, sources, swaps, chosen).line.length() <= m ? BigInteger.ONE : BigInteger.ZERO;
        }
        List<Boolean> off = new ArrayList<>(chosen);
        off.add(false);
        BigInteger without = chance(m, c, rule + 1, off);
        if (!on.get(rule)) {
            return without;
        }
        List<Boolean> with = new ArrayList<>(chosen);
        with.add(true);
        return without.multiply(BigInteger.valueOf(c)).add(chance(m, c, rule + 1, with).multiply(BigInteger.valueOf(10 - c)));
    }

    int image() {
        image = new Image(moment(), new ArrayList<>(swaps), new ArrayList<>(past));
        return 1;
    }

    int restore() {
        if (image == null) {
            return -4;
        }
        take(image.moment);
        swaps = new ArrayList<>(image.swaps);
        past = new ArrayDeque<>(image.past);
        pileSort = -4;
        return 1;
    }

    private static int laneOf(Object row) {
        return row instanceof byte[] ? 0 : row instanceof short[] ? 1 : row instanceof int[] ? 2 : 3;
    }

    private int refusal(int sheet, int lane, int i, int n) {
        if (sheets[sheet] == null) {
            return -11;
        }
        if (laneOf(sheets[sheet]) != lane) {
            return -12;
        }
        return i < 0 || (long) i + n > java.lang.reflect.Array.getLength(sheets[sheet]) ? -13 : 0;
    }

    private void write(int sheet, int i, long v) {
        if (sheets[sheet] instanceof byte[] row) {
            row[i] = (byte) v;
        } else if (sheets[sheet] instanceof short[] row) {
            row[i] = (short) v;
        } else if (sheets[sheet] instanceof int[] row) {
            row[i] = (int) v;
        } else if (sheets[sheet] instanceof long[] row) {
            row[i] = v;
        }
    }

    int came(int rule, int sheet, int lane, int i, int n) {
        if (!isRule(rule) || !in(sheet, 0, 3) || !in(lane, 0, 3) || !in(n, 0, 60)) {
            return -1;
        }
        if (refusal(sheet, lane, i, n) != 0) {
            return refusal(sheet, lane, i, n);
        }
        int kinds = 0;
        for (int kind = 0; kind < 5; kind++) {
            List<Swap> others = new ArrayList<>(swaps);
            others.set(rule, new Swap(kind, swaps.get(rule).phrase, swaps.get(rule).gift));
            String made = go(line, sources, others, on).line;
            boolean same = made.length() == n;
            for (int k = 0; same && k < n; k++) {
                same = java.lang.reflect.Array.getLong(sheets[sheet], i + k) == made.charAt(k);
            }
            kinds += same ? 1 << kind : 0;
        }
        return kinds;
    }

    int film(int what, int sheet, int lane, int i) {
        if (!in(what, 0, 1) || !in(sheet, 0, 3) || !in(lane, 0, 3)) {
            return -1;
        }
        Made made = ahead();
        int size = made.line.length();
        if (refusal(sheet, lane, i, size) != 0) {
            return refusal(sheet, lane, i, size);
        }
        for (int k = 0; k < size; k++) {
            write(sheet, i + k, what == 0 ? made.line.charAt(k) : made.sources.get(k));
        }
        return size;
    }

    int sheet(int sheet, int lane, int n) {
        if (!in(sheet, 0, 3) || !in(lane, 0, 3) || n > 60) {
            return -1;
        }
        if (n < 0) {
            return -14;
        }
        sheets[sheet] = lane == 0 ? new byte[n] : lane == 1 ? new short[n] : lane == 2 ? new int[n] : new long[n];
        return n;
    }

    int drop(int sheet) {
        if (!in(sheet, 0, 3)) {
            return -1;
        }
        if (sheets[sheet] == null) {
            return -11;
        }
        int had = java.lang.reflect.Array.getLength(sheets[sheet]);
        sheets[sheet] = null;
        return had;
    }

    int item(int sheet, int lane, int i, long v) {
        if (!in(sheet, 0, 3) || !in(lane, 0, 3)) {
            return -1;
        }
        if (refusal(sheet, lane, i, 1) != 0) {
            return refusal(sheet, lane, i, 1);
        }
        write(sheet, i, v);
        return 1;
    }

    int copy(int from, int i, int to, int j, int n) {
        if (!in(from, 0, 3) || !in(to, 0, 3)) {
            return -1;
        }
        if (sheets[from] == null || sheets[to] == null) {
            return -11;
        }
        if (laneOf(sheets[from]) != laneOf(sheets[to])) {
            return -12;
        }
        try {
            System.arraycopy(sheets[from], i, sheets[to], j, n);
            return n;
        } catch (IndexOutOfBoundsException outside) {
            return -13;
        }
    }

    /** THE LINE, so that a test can name it. */
    String line() {
        return line;
    }
}
