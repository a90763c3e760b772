import java.util.function.Consumer;

/** The boundary cases of promises 16 to 24: COMES, USED, WENT, REST, SURE, LEAN, LONG, IMAGES. */
public final class LookedForBoundTests {
    private static final Check check = new Check();
    private static final Twins twins = new Twins(check);
    private static final int LEAST = Integer.MIN_VALUE;
    private static final int MOST = Integer.MAX_VALUE;

    public static void main(String[] args) {
        comesWhat();
        comesPlaces();
        comesOfNothing();
        comesCanBe();
        comesUpTo360();
        usedPlaces();
        usedWhereAPhraseBegins();
        wentBounds();
        wentFirstPlace();
        rest0();
        restUpTo20();
        restThatCantBe();
        restWithoutSources();
        sureBounds();
        sureOfPhrases();
        sureOfWholeWords();
        sureOfOnce();
        sureOf60();
        leanWhat();
        leanNone();
        leanOfLikeOnes();
        leanOfManyLetters();
        leanAndOddsOfOnce();
        oddsBad();
        oddsOfM();
        oddsOfC();
        oddsInLowestTerms();
        oddsOfThoseThatAreOn();
        oddsOfTen();
        nothingIsChanged();
        restoreNone();
        imageKeepsAllBut();
        imageOfWhatMayBeUndone();
        imageOutlivesManyDeeds();
        imageOfTheLatest();
        imageOfNothing();
        check.finish("LookedForBoundTests");
    }

    // Promise 16: what 0 .. 3.
    private static void comesWhat() {
        for (int what : new int[] {LEAST, -1, 4, MOST}) {
            twins.refuses("comes(" + what + ", 0)", x -> x.comes(what, 0), -1);
        }
    }

    // "BAD: no such place (what 1, 2)": what 0 and 3 ask for none.
    private static void comesPlaces() {
        PhraseSwaps x = Check.of("ab_c;p:ab=xyz");
        check.due("how many", x.comes(0, 0), 5);
        String letters = "xyz_c";
        int[] sources = {0, 0, 0, 2, 3};
        for (int place = 0; place < 5; place++) {
            check.due("letter at " + place, x.comes(1, place), letters.charAt(place));
            check.due("source at " + place, x.comes(2, place), sources[place]);
        }
        for (int place : new int[] {LEAST, -1, 5, 60, MOST}) {
            check.due("letter at " + place, x.comes(1, place), -1);
            check.due("source at " + place, x.comes(2, place), -1);
            check.due("how many, whatever place", x.comes(0, place), 5);
            check.due("whether, whatever place", x.comes(3, place), 1);
            twins.refuses("comes(1, " + place + ")", y -> y.comes(1, place), -1);
            twins.refuses("comes(2, " + place + ")", y -> y.comes(2, place), -1);
        }
    }

    private static void comesOfNothing() {
        for (String text : new String[] {"", "ab;p:ab=", ";p:a=b", "aaa;p:a="}) {
            PhraseSwaps x = Check.of(text);
            check.due("how many of " + text, x.comes(0, 0), 0);
            check.due("letter of " + text, x.comes(1, 0), -1);
            check.due("source of " + text, x.comes(2, 0), -1);
            check.due("whether of " + text, x.comes(3, 0), 1);
        }
    }

    // "whether it can be (60 at most)".
    private static void comesCanBe() {
        for (int n = 58; n <= 60; n++) {
            PhraseSwaps x = Check.of(Check.many("a", n) + ";f:a=bb");
            check.due("how many of " + n, x.comes(0, 0), n + 1);
            check.due("whether of " + n, x.comes(3, 0), n < 60 ? 1 : 0);
            x.turn(0);
            check.due("how many of " + n + " by none", x.comes(0, 0), n);
            check.due("whether of " + n + " by none", x.comes(3, 0), 1);
        }
        PhraseSwaps x = Check.of("a" + Check.many("b", 59) + ";f:a=cd");
        check.due("the 61st letter", x.comes(1, 60), 'b');
        check.due("its source", x.comes(2, 60), 59);
        check.due("a 62nd", x.comes(1, 61), -1);
    }

    private static void comesUpTo360() {
        PhraseSwaps x = Check.of(Check.many("a", 60) + ";p:a=uvwxyz");
        check.due("360", x.comes(0, 0), 360);
        check.due("can't be", x.comes(3, 0), 0);
        for (int place : new int[] {0, 5, 6, 59, 60, 61, 359}) {
            check.due("letter at " + place, x.comes(1, place), 'u' + place % 6);
            check.due("source at " + place, x.comes(2, place), place / 6);
        }
        check.due("letter at 360", x.comes(1, 360), -1);
        check.due("source at 360", x.comes(2, 360), -1);
        check.due("uses", x.of(0, 4), 60);
        check.due("used at 59", x.used(59), 0);
        check.due("used at 60", x.used(60), -1);
        check.due("went of 59", x.went(59), 354);
    }

    // Promise 17: "NONE. BAD."
    private static void usedPlaces() {
        for (int place : new int[] {LEAST, -1, 5, 60, MOST}) {
            twins.refuses("used(" + place + ")", x -> x.used(place), -1);
        }
        check.due("used of an empty line", Check.of(";p:a=").used(0), -1);
        check.due("used of no rules", Check.of("a").used(0), -4);
    }

    // "the RULE that a PASS would use there (its PHRASE begins there); none".
    private static void usedWhereAPhraseBegins() {
        PhraseSwaps x = Check.of("abcdefa" + Check.many(";p:a=", 9) + ";p:abcdef=");
        check.due("begins there", x.used(0), 9);
        for (int place = 1; place < 6; place++) {
            check.due("inside it", x.used(place), -4);
        }
        check.due("at the last place", x.used(6), 0);
        x.turn(9);
        x.turn(0);
        check.due("of those that are on", x.used(0), 1);
        check.due("inside no more", x.used(1), -4);
    }

    // Promise 18: "BAD: not 0 .. 59".
    private static void wentBounds() {
        for (int source : new int[] {LEAST, -1, 60, 61, MOST}) {
            twins.refuses("went(" + source + ")", x -> x.went(source), -1);
        }
        PhraseSwaps x = Check.of(Check.many("a", 60));
        check.due("went(0)", x.went(0), 0);
        check.due("went(59)", x.went(59), 59);
        check.due("went(60)", x.went(60), -1);
        PhraseSwaps y = Check.of(Check.many("a", 59));
        check.due("went(59) where there is none", y.went(59), -4);
        check.due("went(58)", y.went(58), 58);
        check.due("went(0) of an empty line", new PhraseSwaps().went(0), -4);
        check.due("went(59) of an empty line", new PhraseSwaps().went(59), -4);
    }

    // "the first place of what COMES at which the SOURCE is a number; none".
    private static void wentFirstPlace() {
        PhraseSwaps x = Check.of("abcd;p:ab=xyz;p:d=");
        int[] due = {0, -4, 3, -4};
        for (int source = 0; source < due.length; source++) {
            check.due("went of " + source, x.went(source), due[source]);
        }
        x.pass(1);
        check.due("through a pass", x.went(0), 0);
        check.due("through a pass", x.went(2), 3);
        check.due("gone in the next one", x.went(3), -4);
    }

    private static void dueRest(String text, int want) {
        check.due("rest of " + text, Check.of(text).rest(), want);
    }

    private static void rest0() {
        dueRest("", 0);
        dueRest("ab", 0);
        dueRest("ab;p:c=d", 0);
        dueRest(";p:a=b", 0);
        PhraseSwaps x = Check.of("a;p:a=aa");
        x.turn(0);
        check.due("rest of none that are on", x.rest(), 0);
        dueRest("a;p:a=b", 1);
        dueRest("a;p:a=", 1);
    }

    // "(0 .. 20)", "none: not by 20".
    private static void restUpTo20() {
        for (int n = 18; n <= 22; n++) {
            dueRest(Check.many("a", n) + ";o:a=", n <= 20 ? n : -4);
            dueRest(Check.many("_a", n) + ";o:a=b", n <= 20 ? n : -4);
        }
        dueRest("a;p:a=b;p:b=a", -4);
        // A line that comes back as it was is not at rest.
        dueRest("ab;p:ab=ba;p:ba=ab", -4);
    }

    // "or one of them can't be".
    private static void restThatCantBe() {
        dueRest(Check.many("a", 60) + ";f:a=bb", -4);
        dueRest(Check.many("a", 59) + ";f:a=bb", 1);
        dueRest(Check.many("a", 60) + ";o:a=b;p:b=cc", -4);
        dueRest("a;p:a=aa", -4);
        // 30 letters become 60, which one more pass leaves; 31 become 62.
        dueRest(Check.many("a", 30) + ";p:a=bb", 1);
        dueRest(Check.many("a", 31) + ";p:a=bb", -4);
        // Each of 20 passes turns one letter, the last of them that ahead of q; the next one would make 61, or leave all.
        String line = Check.many("_a", 20) + "q" + Check.many("_", 19);
        dueRest(line + ";o:a=b;p:bq=xyz", -4);
        dueRest(line + ";o:a=b;p:bq=bq", 20);
    }

    // "changes no LETTER", "(SOURCES do not matter)".
    private static void restWithoutSources() {
        dueRest("aa;p:aa=aa", 0);
        dueRest("abab;p:ab=ab", 0);
        dueRest("a;t:a=a", 0);
        PhraseSwaps x = Check.of("aa;p:aa=aa");
        check.due("its source would change", x.comes(2, 1), 0);
        check.due("rest", x.rest(), 0);
        x.pass(1);
        check.due("source", x.at(1, 1), 0);
    }

    private static void dueSure(String text, int... want) {
        PhraseSwaps x = Check.of(text);
        for (int n = 0; n < want.length; n++) {
            check.due("sure(" + n + ") of " + text, x.sure(n), want[n]);
        }
        check.due("sure of more than there are of " + text, x.sure(want.length), -1);
    }

    // "n (0 .. 60; no more than there are)".
    private static void sureBounds() {
        for (int n : new int[] {LEAST, -1, 6, 60, 61, MOST}) {
            twins.refuses("sure(" + n + ")", x -> x.sure(n), -1);
        }
        dueSure("", 0);
        dueSure(";p:a=b", 0);
        dueSure("a", 0, 1);
        PhraseSwaps x = new PhraseSwaps();
        check.due("sure(1) of nothing", x.sure(1), -1);
        check.due("sure(-1) of nothing", x.sure(-1), -1);
    }

    // "what it needs has come": the whole PHRASE, of the longest that may stand.
    private static void sureOfPhrases() {
        dueSure("abcdef;p:abcdef=x", 0, 0, 0, 0, 0, 0, 6);
        dueSure("abcdeg;p:abcdef=x", 0, 0, 0, 0, 0, 0, 6);
        dueSure("abcdeab;p:abcdef=x", 0, 0, 0, 0, 0, 0, 5, 5);
        dueSure("aaa;p:a=x", 0, 1, 2, 3);
        dueSure("aaa;p:a=x;p:aa=y", 0, 0, 2, 2);
        dueSure("abc;p:a=x;p:ab=y;p:abc=z", 0, 0, 0, 3);
        dueSure("abd;p:a=x;p:ab=y;p:abc=z", 0, 0, 0, 3);
        dueSure("xyz;p:a=b", 0, 1, 2, 3);
        // Of like ones the first is used, whatever comes.
        dueSure("ab;p:ab=x;p:ab=y", 0, 0, 2);
        PhraseSwaps x = Check.of("ab;p:abc=x");
        check.due("an on one", x.sure(2), 0);
        x.turn(0);
        check.due("an off one does not matter", x.sure(2), 2);
    }

    // "whatever LETTERS came behind these n (or none)": what is behind a word has not come at its end.
    private static void sureOfWholeWords() {
        dueSure("ab_;w:ab=x", 0, 0, 0, 3);
        dueSure("abc;w:ab=x", 0, 0, 0, 3);
        dueSure("ab_;t:ab=x", 0, 0, 0, 3);
        dueSure("ab_;f:ab=x", 0, 0, 2, 3);
        dueSure("ab_;o:ab=x", 0, 0, 2, 3);
        dueSure("cab_;w:ab=x", 0, 1, 2, 3, 4);
        dueSure("cab_;f:ab=x", 0, 1, 2, 3, 4);
        dueSure("ab_;w:ab=x;p:ab=y", 0, 0, 0, 3);
        dueSure("ab_;p:ab=y;w:ab=x", 0, 0, 2, 3);
        dueSure("ab_;w:ab=x;p:a=y", 0, 0, 0, 3);
        dueSure("abc;w:ab=x;p:a=y", 0, 0, 0, 3);
    }

    private static void sureOfOnce() {
        dueSure("a_a;o:a=x;f:ab=y", 0, 0, 2, 2);
        dueSure("ab_ab;o:ab=x", 0, 0, 2, 3, 4, 5);
        dueSure("ab_ab;f:ab=x", 0, 0, 2, 3, 3, 5);
    }

    // n up to 60: whatever came behind the 60th, had it come, is not told to be bounded.
    private static void sureOf60() {
        PhraseSwaps x = Check.of(Check.many("a", 60) + ";p:b=c");
        check.due("sure(60)", x.sure(60), 60);
        check.due("sure(59)", x.sure(59), 59);
        check.due("sure(61)", x.sure(61), -1);
        PhraseSwaps y = Check.of(Check.many("a", 60) + ";p:aaaaaa=b");
        check.due("sixes", y.sure(60), 60);
        check.due("sixes", y.sure(59), 54);
        check.due("sixes", y.sure(54), 54);
        check.due("sixes", y.sure(53), 48);
    }

    // Promise 21: what 0, 1.
    private static void leanWhat() {
        for (int what : new int[] {LEAST, -1, 2, MOST}) {
            twins.refuses("lean(" + what + ")", x -> x.lean(what), -1);
            check.due("lean(" + what + ") BAD ahead of NONE", new PhraseSwaps().lean(what), -1);
        }
    }

    private static void dueLean(PhraseSwaps x, String name, int rule, int letters) {
        check.due("lean of " + name, x.lean(0), rule);
        check.due("letters of " + name, x.lean(1), letters);
    }

    // "of those that are ON; .. none".
    private static void leanNone() {
        dueLean(new PhraseSwaps(), "nothing", -4, -4);
        dueLean(Check.of("ab"), "no rules", -4, -4);
        PhraseSwaps x = Check.of("ab;p:a=xyz;p:b=xy");
        dueLean(x, "both", 0, 3);
        x.turn(0);
        dueLean(x, "one that is on", 1, 2);
        x.turn(1);
        dueLean(x, "none that is on", -4, -4);
    }

    // "of like ones the first".
    private static void leanOfLikeOnes() {
        dueLean(Check.of("ab;p:c=;p:d="), "two that change nothing", 0, 2);
        dueLean(Check.of("ab;p:c=;p:a=xyz;p:b=xyz"), "two alike behind one", 1, 4);
        dueLean(Check.of(";p:a=;p:b="), "no letters", 0, 0);
        dueLean(Check.of("ab;p:a=;p:b="), "two that take one each", 0, 1);
        PhraseSwaps x = Check.of("b" + Check.many(";p:a=", 9) + ";p:b=cc");
        dueLean(x, "the last of ten", 9, 1);
        x.turn(9);
        dueLean(x, "the first of nine", 0, 1);
        x.turn(0);
        dueLean(x, "the first that is on", 1, 1);
    }

    private static void leanOfManyLetters() {
        dueLean(Check.of(Check.many("a", 60) + ";p:b=;p:a=cccccc"), "360 or 60", 1, 60);
        dueLean(Check.of(Check.many("a", 60) + ";p:a=cccccc;p:a=ccccc"), "360 or 300", 0, 300);
        dueLean(Check.of(Check.many("a", 60) + ";p:a=cccccc;p:a=cccccc"), "360 both", 0, 360);
    }

    // "only if it was not yet used in this PASS": without the ONCE one two are left to the other, with it but one.
    private static void leanAndOddsOfOnce() {
        PhraseSwaps x = Check.of("a_a;o:a=;p:a=bb;p:c=");
        dueLean(x, "once", 1, 2);
        dueOdds(x, 1, 5, 0, 1);
        dueOdds(x, 2, 5, 1, 4);
        dueOdds(x, 3, 5, 3, 4);
        dueOdds(x, 4, 5, 3, 4);
        dueOdds(x, 5, 5, 1, 1);
        PhraseSwaps y = Check.of(Check.many("_a", 30) + ";o:a=bbbbbb;p:q=");
        dueLean(y, "once of thirty", 0, 60);
        dueOdds(y, 64, 4, 2, 5);
        dueOdds(y, 65, 4, 1, 1);
    }

    // Promise 22: "by c of 10 (0 .. 10)", "m (0 .. 360)", what 0, 1.
    private static void oddsBad() {
        for (int m : new int[] {LEAST, -1, 361, MOST}) {
            twins.refuses("longOdds of m " + m, x -> x.longOdds(m, 5, 0), -1);
        }
        for (int c : new int[] {LEAST, -1, 11, MOST}) {
            twins.refuses("longOdds of c " + c, x -> x.longOdds(5, c, 1), -1);
        }
        for (int what : new int[] {LEAST, -1, 2, MOST}) {
            twins.refuses("longOdds of what " + what, x -> x.longOdds(5, 5, what), -1);
        }
    }

    private static void dueOdds(PhraseSwaps x, int m, int c, long above, long below) {
        check.due("odds of " + m + " by " + c + " above", x.longOdds(m, c, 0), above);
        check.due("odds of " + m + " by " + c + " below", x.longOdds(m, c, 1), below);
    }

    // "m LETTERS or fewer".
    private static void oddsOfM() {
        PhraseSwaps x = Check.of("a;p:a=");
        dueOdds(x, 0, 3, 7, 10);
        dueOdds(x, 1, 3, 1, 1);
        dueOdds(x, 360, 3, 1, 1);
        PhraseSwaps y = Check.of("aa;p:a=bb");
        dueOdds(y, 0, 3, 0, 1);
        dueOdds(y, 1, 3, 0, 1);
        dueOdds(y, 2, 3, 3, 10);
        dueOdds(y, 3, 3, 3, 10);
        dueOdds(y, 4, 3, 1, 1);
        PhraseSwaps z = Check.of(Check.many("a", 60) + ";p:a=bbbbbb");
        dueOdds(z, 59, 1, 0, 1);
        dueOdds(z, 60, 1, 1, 10);
        dueOdds(z, 359, 1, 1, 10);
        dueOdds(z, 360, 1, 1, 1);
        dueOdds(new PhraseSwaps(), 0, 0, 1, 1);
        dueOdds(new PhraseSwaps(), 0, 10, 1, 1);
        dueOdds(Check.of("a"), 0, 5, 0, 1);
        dueOdds(Check.of("a"), 1, 5, 1, 1);
    }

    // "each RULE that is ON is OFF by c of 10": by 0 never, by 10 always.
    private static void oddsOfC() {
        PhraseSwaps x = Check.of("a;p:a=");
        for (int c = 0; c <= 10; c++) {
            long[] above = {1, 9, 4, 7, 3, 1, 2, 3, 1, 1, 0};
            long[] below = {1, 10, 5, 10, 5, 2, 5, 10, 5, 10, 1};
            dueOdds(x, 0, c, above[c], below[c]);
        }
        PhraseSwaps y = Check.of("a;p:a=bb");
        dueOdds(y, 1, 0, 0, 1);
        dueOdds(y, 1, 10, 1, 1);
    }

    // "a fraction in lowest terms".
    private static void oddsInLowestTerms() {
        PhraseSwaps x = Check.of("ab;p:a=;p:b=");
        dueOdds(x, 0, 5, 1, 4);
        dueOdds(x, 1, 5, 3, 4);
        dueOdds(x, 0, 2, 16, 25);
        dueOdds(x, 1, 2, 24, 25);
        dueOdds(x, 1, 3, 91, 100);
        // Both on, 2 by one of them alone: 81 and 9 of 100 are in lowest terms 9 of 10.
        dueOdds(Check.of("a;p:a=;p:a=bb"), 0, 1, 9, 10);
        dueOdds(Check.of("a;p:b=;p:c="), 0, 1, 0, 1);
    }

    // "each RULE that is ON": one that is OFF stays so.
    private static void oddsOfThoseThatAreOn() {
        PhraseSwaps x = Check.of("ab;p:a=;p:b=");
        x.turn(0);
        dueOdds(x, 0, 3, 0, 1);
        dueOdds(x, 1, 3, 7, 10);
        x.turn(1);
        dueOdds(x, 1, 3, 0, 1);
        dueOdds(x, 2, 3, 1, 1);
    }

    private static void oddsOfTen() {
        StringBuilder text = new StringBuilder("abcdefghij");
        for (int k = 0; k < 10; k++) {
            text.append(";p:").append((char) ('a' + k)).append('=');
        }
        PhraseSwaps x = Check.of(text.toString());
        dueOdds(x, 0, 7, 59049L, 10000000000L);
        dueOdds(x, 0, 9, 1L, 10000000000L);
        dueOdds(x, 9, 9, 6513215599L, 10000000000L);
        dueOdds(x, 10, 9, 1L, 1L);
        dueOdds(x, 0, 8, 1L, 9765625L);
        dueOdds(x, 9, 1, 9999999999L, 10000000000L);
    }

    // "(Nothing is changed by it; PASSES by all RULES.)"
    private static void nothingIsChanged() {
        Consumer<PhraseSwaps> asked = x -> {
            Twins.storyWithTape(x);
            for (int what = 0; what <= 3; what++) {
                x.comes(what, 1);
            }
            for (int place = 0; place < 5; place++) {
                x.used(place);
                x.went(place);
                x.sure(place);
            }
            x.rest();
            x.lean(0);
            x.lean(1);
            x.longOdds(4, 5, 0);
            x.longOdds(4, 5, 1);
            x.came(0, 0, 0, 0, 3);
            x.of(0, 4);
            x.count(3);
        };
        twins.alike("what is looked for", Twins::storyWithTape, asked);
        // By all RULES, not by those of the PILE alone.
        PhraseSwaps x = Check.of("ab;p:a=c;p:b=d");
        x.pile(0);
        x.put(0);
        check.dueText("by all", Check.made(x), "cd");
    }

    // Promise 24: "NONE: there is none".
    private static void restoreNone() {
        twins.refuses("restore NONE", x -> {
            Check.job(x, "ab;p:a=b");
            x.change(0, 'b');
            x.pile(0);
            x.put(0);
            Twins.sheets(x);
            Check.tell(x, "z_");
        }, x -> x.restore(), -4);
    }

    // Promise 23: "All but SHEETS, THE TAPE, the PILE is kept as an IMAGE: 1"; 24: "All is as it was then; there is no PILE: 1".
    private static void imageKeepsAllBut() {
        Consumer<PhraseSwaps> then = x -> {
            Check.job(x, "ab_ab;w:ab=xyz;p:b=q");
            x.change(0, 'b');
            x.turn(1);
            x.pass(3);
            check.due("image", x.image(), 1);
        };
        twins.alike("restored", x -> {
            then.accept(x);
            Twins.sheets(x);
            Check.tell(x, "z_;f:z=");
        }, x -> {
            then.accept(x);
            x.undo();
            x.turn(0);
            Check.rule(x, "t:a=zz");
            x.change(1, 'z');
            x.pile(0);
            x.put(2);
            Check.job(x, "zzz;o:z=");
            x.pile(2);
            x.put(0);
            Twins.sheets(x);
            Check.tell(x, "z_;f:z=");
            check.due("restore", x.restore(), 1);
        });
        PhraseSwaps x = Check.of("a;p:a=b");
        x.pile(0);
        x.put(0);
        x.image();
        check.due("an image leaves the pile", x.count(4), 1);
        x.restore();
        check.due("a restore takes it", x.count(4), -4);
        check.due("and its class", x.count(5), -4);
        check.due("passPile", x.passPile(), -11);
    }

    private static void imageOfWhatMayBeUndone() {
        PhraseSwaps x = Check.of("a");
        for (int k = 1; k <= 9; k++) {
            x.change(0, 'a' + k);
        }
        x.image();
        for (int k = 1; k <= 5; k++) {
            x.change(0, 'z' - k);
        }
        x.restore();
        check.due("eight then", x.count(6), 8);
        for (int k = 1; k <= 8; k++) {
            check.due("undo " + k, x.undo(), 8 - k);
            check.due("letter " + k, x.at(0, 0), 'a' + 9 - k);
        }
        check.due("no more", x.undo(), -4);
        x.restore();
        check.due("again eight", x.count(6), 8);
        x.undo();
        x.image();
        x.undo();
        x.restore();
        check.due("seven then", x.count(6), 7);
    }

    // Whatever was done since, all 8 that were known then are known again.
    private static void imageOutlivesManyDeeds() {
        for (int known = 0; known <= 9; known++) {
            for (int since = 0; since <= 9; since++) {
                PhraseSwaps x = Check.of("a");
                for (int k = 1; k <= known; k++) {
                    x.change(0, 'a' + k);
                }
                x.image();
                for (int k = 0; k < since / 2; k++) {
                    x.undo();
                }
                for (int k = 0; k < since; k++) {
                    x.change(0, 'z' - k);
                }
                check.due("restore", x.restore(), 1);
                int left = Math.min(known, 8);
                check.due("known then", x.count(6), left);
                for (int k = 1; k <= left; k++) {
                    check.due("undo " + k, x.undo(), left - k);
                    check.due("letter " + k + " of " + known + " behind " + since, x.at(0, 0), 'a' + known - k);
                }
                check.due("no more", x.undo(), -4);
            }
        }
    }

    private static void imageOfTheLatest() {
        PhraseSwaps x = Check.of("a");
        x.image();
        x.change(0, 'b');
        x.image();
        x.change(0, 'c');
        for (int k = 0; k < 3; k++) {
            check.due("restore " + k, x.restore(), 1);
            check.due("the latest", x.at(0, 0), 'b');
            x.change(0, 'd');
        }
    }

    private static void imageOfNothing() {
        PhraseSwaps x = new PhraseSwaps();
        check.due("image of nothing", x.image(), 1);
        Check.job(x, Check.many("a", 60) + Check.many(";p:a=", 10));
        x.change(0, 'b');
        check.due("restore of nothing", x.restore(), 1);
        int[] counts = {0, 0, 0, 0, -4, -4, 0};
        for (int what = 0; what < counts.length; what++) {
            check.due("nothing restored, count " + what, x.count(what), counts[what]);
        }
        check.due("nothing to undo", x.undo(), -4);
        PhraseSwaps y = Check.of(Check.many("a", 60) + Check.many(";p:a=b", 10));
        y.image();
        y.job();
        y.restore();
        check.due("60 letters again", y.count(0), 60);
        check.due("the last source", y.at(59, 1), 59);
        check.due("10 rules again", y.count(1), 10);
        check.due("its last", y.spelt(9, 1, 0), 'b');
    }
}
