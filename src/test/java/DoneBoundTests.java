/** The boundary cases of promises 9 to 15: CHANGED, SWITCHED, PASSES by KINDS, the PILE, UNDONE. */
public final class DoneBoundTests {
    private static final Check check = new Check();
    private static final Twins twins = new Twins(check);
    private static final int LEAST = Integer.MIN_VALUE;
    private static final int MOST = Integer.MAX_VALUE;

    public static void main(String[] args) {
        changePlaces();
        changeLetters();
        changeNot();
        changedIsOnePlaceAlone();
        turnBad();
        turnOfAll();
        kindsByWhatIsAheadAndBehind();
        theLineAheadAndBehindIsTheOldOne();
        phraseToTheEnd();
        onceInAPass();
        onceIsUsedUpByUseAlone();
        longestThenFirst();
        goesOnBehindThePhrase();
        sourcesOfGifts();
        turnedGifts();
        passBad();
        passOfNone();
        passTellsOthersNothing();
        passFull();
        pileBad();
        pileCounts();
        pileIsNew();
        putOrder();
        putUpTo4();
        putByClass();
        passPileNull();
        passPileFull();
        passPileByOnesThatAreOn();
        undoNone();
        undoKnows8();
        undoOfEachDeed();
        undoOfWhatIsNoDeed();
        undoBehindJobAndRule();
        check.finish("DoneBoundTests");
    }

    private static void dueLine(String text, String want) {
        PhraseSwaps x = Check.of(text);
        x.pass((1 << x.count(1)) - 1);
        check.dueText(text, Check.line(x), want);
    }

    // Promise 9: "BAD".
    private static void changePlaces() {
        for (int place : new int[] {LEAST, -1, 5, 60, MOST}) {
            twins.refuses("change at " + place, x -> x.change(place, 'z'), -1);
        }
        check.due("change of an empty line", new PhraseSwaps().change(0, 'a'), -1);
        PhraseSwaps x = Check.of(Check.many("a", 60));
        check.due("change at 60 of 60", x.change(60, 'z'), -1);
        check.due("change at 59 of 60", x.change(59, 'z'), 'a');
        check.due("change at 0 of 60", x.change(0, '_'), 'a');
        check.dueText("both ends", Check.line(x), "_" + Check.many("a", 58) + "z");
    }

    // "LETTERS: a .. z, or _".
    private static void changeLetters() {
        for (int letter : new int[] {LEAST, -1, 0, ' ', 'A', 'Z', 94, 96, 123, 'a' + 256, '_' + 256, 'a' + 65536, MOST}) {
            twins.refuses("change to " + letter, x -> x.change(0, letter), -1);
        }
        PhraseSwaps x = Check.of("m");
        int was = 'm';
        for (int letter : new int[] {'a', 'z', '_', 'b', 'y'}) {
            check.due("change to " + letter, x.change(0, letter), was);
            check.due("it is " + letter, x.at(0, 0), letter);
            was = letter;
        }
    }

    // "NOT: it is so"; BAD is named first.
    private static void changeNot() {
        twins.refuses("change to what it is", x -> x.change(0, 'q'), -2);
        twins.refuses("change to the _ it is", x -> x.change(2, '_'), -2);
        twins.refuses("change at no place to what another is", x -> x.change(5, 'q'), -1);
    }

    // "CHANGED: the LETTER at a place is another one (its SOURCE stays)".
    private static void changedIsOnePlaceAlone() {
        PhraseSwaps x = Check.of("abc;p:b=xy");
        x.pass(1);
        check.due("change", x.change(2, 'z'), 'y');
        check.dueText("line", Check.line(x), "axzc");
        check.dueText("sources", Check.sources(x), "0 1 1 2 ");
        check.due("to undo", x.count(6), 2);
        check.due("on", x.count(2), 1);
    }

    // Promise 10: "BAD".
    private static void turnBad() {
        for (int rule : new int[] {LEAST, -1, 3, 9, 10, 31, 32, MOST}) {
            twins.refuses("turn(" + rule + ")", x -> x.turn(rule), -1);
        }
        check.due("turn of no rules", new PhraseSwaps().turn(0), -1);
    }

    // "1 it is ON then, 0".
    private static void turnOfAll() {
        PhraseSwaps x = Check.of(Check.many(";p:a=", 10));
        check.due("turn(10) of 10", x.turn(10), -1);
        for (int rule = 0; rule < 10; rule++) {
            check.due("off " + rule, x.turn(rule), 0);
            check.due("off " + rule, x.of(rule, 3), 0);
            check.due("others are on", x.count(2), 1023 - (1 << rule));
            check.due("on " + rule, x.turn(rule), 1);
            check.due("all are on", x.count(2), 1023);
        }
    }

    // "ahead of it and behind it there is no LETTER a .. z": the ends of THE LINE, _, and a, z as the outermost letters.
    private static void kindsByWhatIsAheadAndBehind() {
        String[] around = {"", "_", "a", "m", "z"};
        for (int kind = 0; kind < 5; kind++) {
            for (String ahead : around) {
                for (String behind : around) {
                    boolean front = ahead.isEmpty() || ahead.equals("_");
                    boolean back = behind.isEmpty() || behind.equals("_");
                    boolean stands = kind == 0 || front && (back || kind == 2 || kind == 4);
                    String text = ahead + "bc" + behind + ";" + "pwfto".charAt(kind) + ":bc=x";
                    PhraseSwaps x = Check.of(text);
                    check.due(text + " used", x.used(ahead.length()), stands ? 0 : -4);
                    check.due(text + " pass", x.pass(1), stands ? 1 : 0);
                    check.dueText(text + " line", Check.line(x), ahead + (stands ? "x" : "bc") + behind);
                }
            }
        }
        // _ in a phrase's own ends is no letter a .. z, but what is ahead and behind still counts.
        dueLine("a_b_c;w:_b_=x", "a_b_c");
        dueLine("_b_c;w:_b_=x", "_b_c");
        dueLine("_b_c;f:_b_=x", "xc");
        dueLine("__b__;w:_b_=x", "_x_");
        dueLine("_b_;t:_b_=xy", "yx");
    }

    private static void theLineAheadAndBehindIsTheOldOne() {
        dueLine("ab;p:a=_;f:b=x", "_b");
        dueLine("ab;p:a=;f:b=x", "b");
        dueLine("_b;p:_=a;f:b=x", "ax");
        dueLine("b_;w:b=x;p:_=a", "xa");
        dueLine("ba;w:b=x;p:a=_", "b_");
    }

    // "if its PHRASE is there": the whole of it, up to the last place and no further.
    private static void phraseToTheEnd() {
        dueLine("abcde;p:abcdef=x", "abcde");
        dueLine("abcdef;p:abcdef=x", "x");
        dueLine("abcdefa;p:abcdef=x", "xa");
        dueLine("gabcdef;p:abcdef=x", "gx");
        dueLine("gabcde;p:abcdef=x", "gabcde");
        dueLine("abcdeg;p:abcdef=x", "abcdeg");
        dueLine("a;p:ab=x", "a");
        dueLine(";p:a=x", "");
        PhraseSwaps x = Check.of(Check.many("a", 54) + "bcdefg;w:bcdefg=x;p:bcdefg=yz");
        check.due("the last six of 60", x.used(54), 1);
        check.due("pass", x.pass(3), 1);
        check.due("56", x.count(0), 56);
        check.due("source", x.at(55, 1), 54);
        PhraseSwaps y = Check.of(Check.many("a", 60) + ";p:a=b");
        check.due("all 60", y.pass(1), 60);
    }

    // "but only if it was not yet used in this PASS".
    private static void onceInAPass() {
        PhraseSwaps x = Check.of("a_a_a;o:a=b");
        for (int pass = 1; pass <= 3; pass++) {
            check.due("used once", x.pass(1), 1);
            check.due("uses ahead", x.of(0, 4), pass < 3 ? 1 : 0);
        }
        check.due("no more", x.pass(1), 0);
        check.dueText("line", Check.line(x), "b_b_b");
        dueLine("a_a;o:a=b;p:a=c", "b_c");
        dueLine("a_a;p:a=c;o:a=b", "c_c");
        dueLine("a_a_a;o:a=b;o:a=c", "b_c_a");
        dueLine("ab_ab;o:ab=x;p:a=y", "x_yb");
    }

    private static void onceIsUsedUpByUseAlone() {
        // It does not stand at 1, a longer one is used at 3, so that 7 is its first.
        dueLine("ca_ab_a_a;o:a=x;p:ab=y", "ca_y_x_a");
        dueLine("ca_a;o:a=x", "ca_x");
        PhraseSwaps x = Check.of("a_a;o:a=b");
        x.turn(0);
        check.due("an off one is not used", x.pass(1), 0);
        x.turn(0);
        check.due("then it is", x.pass(1), 1);
    }

    // "that with the longest PHRASE, of like ones the first".
    private static void longestThenFirst() {
        dueLine("abcdef;p:a=u;p:ab=v;p:abc=w;p:abcd=x;p:abcde=y;p:abcdef=z", "z");
        dueLine("abcdef;p:abcdef=z;p:abcde=y;p:a=u", "z");
        dueLine("abcde;p:abcdef=z;p:abcde=y;p:a=u", "y");
        dueLine("ab;w:ab=x;p:ab=y", "x");
        dueLine("ab;p:ab=y;w:ab=x", "y");
        dueLine("abc;w:ab=x;p:ab=y", "yc");
        dueLine("abc;p:a=x;w:ab=y", "xbc");
        PhraseSwaps x = Check.of("a" + Check.many(";p:a=b", 9) + ";p:a=c");
        check.due("of ten the first", x.used(0), 0);
        for (int rule = 0; rule < 9; rule++) {
            check.due("that is on", x.used(0), rule);
            x.turn(rule);
        }
        check.due("the last", x.used(0), 9);
        x.turn(9);
        check.due("none", x.used(0), -4);
        // The leftmost first, though a longer one begins behind it.
        dueLine("abcdefg;p:bcdefg=x;p:ab=y", "ycdefg");
    }

    // "it goes on behind the PHRASE": nothing is exchanged twice, nothing overlaps.
    private static void goesOnBehindThePhrase() {
        dueLine("aaa;p:aa=b", "ba");
        dueLine("aaaa;p:aa=a", "aa");
        dueLine("ab;p:a=b;p:b=a", "ba");
        dueLine("aba;p:ab=a;p:aa=x", "aa");
        dueLine("ababab;p:aba=x", "xbab");
        dueLine("aab;p:a=;p:ab=x", "x");
    }

    // "SOURCE of a LETTER that a RULE GIVES is that of the first LETTER of the PHRASE; of one that stays its own".
    private static void sourcesOfGifts() {
        PhraseSwaps x = Check.of("xabcdefy;p:abcdef=uvwxyz");
        x.pass(1);
        check.dueText("sources", Check.sources(x), "0 1 1 1 1 1 1 7 ");
        PhraseSwaps y = Check.of("ab;p:ab=;p:b=c");
        y.pass(1);
        check.dueText("no gift, no source", Check.sources(y), "");
        PhraseSwaps z = Check.of(Check.many("a", 59) + "b;p:b=c;o:a=");
        z.pass(3);
        check.due("the last source", z.at(58, 1), 59);
        z.pass(2);
        check.due("the last source through passes", z.at(57, 1), 59);
    }

    // "What it GIVES: its GIFT; TURNED: that from behind".
    private static void turnedGifts() {
        dueLine("a;t:a=", "");
        dueLine("a;t:a=b", "b");
        dueLine("a;t:a=bc", "cb");
        dueLine("a_a;t:a=uvwxyz", "zyxwvu_zyxwvu");
        dueLine("a;w:a=uvwxyz", "uvwxyz");
    }

    // Promise 11: "BAD: below 0, or with a RULE that there is not"; FULL is named behind it.
    private static void passBad() {
        for (int set : new int[] {LEAST, -8, -1, 8, 9, 15, 16, 1023, 1024, 1 << 30, MOST}) {
            twins.refuses("pass(" + set + ")", x -> x.pass(set), -1);
        }
        check.due("pass(1) of no rules", new PhraseSwaps().pass(1), -1);
        PhraseSwaps x = Check.of("a" + Check.many(";p:a=b", 10));
        check.due("pass(1024) of ten", x.pass(1024), -1);
        check.due("pass(2047) of ten", x.pass(2047), -1);
        check.due("pass(1023) of ten", x.pass(1023), 1);
        twins.refuses("BAD ahead of FULL", DoneBoundTests::sixty, y -> y.pass(7), -1);
    }

    // "(the set of none is well)".
    private static void passOfNone() {
        PhraseSwaps x = new PhraseSwaps();
        check.due("pass(0) of nothing", x.pass(0), 0);
        check.due("it may be undone", x.count(6), 1);
        PhraseSwaps y = Check.of("ab;p:a=b");
        check.due("pass(0)", y.pass(0), 0);
        check.dueText("line stays", Check.line(y), "ab");
        check.due("undone", y.undo(), 0);
    }

    // "(others are told nothing by it)", "the RULES of the set that are ON".
    private static void passTellsOthersNothing() {
        PhraseSwaps x = Check.of("abc;p:a=x;p:b=y;p:c=z");
        check.due("pass(5)", x.pass(5), 2);
        check.dueText("line", Check.line(x), "xbz");
        check.due("all are on still", x.count(2), 7);
        x.turn(1);
        check.due("an off one in the set", x.pass(7), 0);
        check.due("off still", x.count(2), 5);
        check.dueText("line stays", Check.line(x), "xbz");
    }

    /** 60 letters, a pass by rule 0 would make 61 of them, by rule 1 still 60; the pile holds both. */
    private static void sixty(PhraseSwaps x) {
        Check.job(x, "a" + Check.many("b", 59) + ";f:a=cd;o:a=e");
        x.turn(1);
        x.image();
        x.turn(1);
        x.pile(0);
        x.put(0);
        x.put(1);
        Twins.sheets(x);
        Check.tell(x, "z_");
    }

    // "The new line becomes THE LINE, if it has no more than 60 LETTERS"; "FULL: more than 60 LETTERS would come".
    private static void passFull() {
        twins.refuses("61 by a pass", DoneBoundTests::sixty, x -> x.pass(1), -3);
        twins.refuses("61 by a pass of both", DoneBoundTests::sixty, x -> x.pass(3), -3);
        PhraseSwaps x = new PhraseSwaps();
        sixty(x);
        check.due("60 by a pass", x.pass(2), 1);
        check.due("60", x.count(0), 60);
        check.due("its letter", x.at(0, 0), 'e');
        PhraseSwaps y = Check.of(Check.many("a", 59) + ";f:a=cd;p:a=bbbbbb");
        check.due("354", y.pass(2), -3);
        check.due("59 to 60", y.pass(1), 1);
        check.due("60", y.count(0), 60);
        check.due("the last source", y.at(59, 1), 58);
        PhraseSwaps z = Check.of(Check.many("a", 10) + ";p:a=bbbbbb;p:b=");
        check.due("10 to 60", z.pass(1), 10);
        check.due("60 to none", z.pass(2), 60);
        check.due("none", z.count(0), 0);
        check.due("none to none", z.pass(3), 0);
        PhraseSwaps w = Check.of(Check.many("a", 10) + "b;p:a=bbbbbb");
        check.due("11 to 61", w.pass(1), -3);
        check.due("11 still", w.count(0), 11);
        PhraseSwaps v = Check.of(Check.many("a", 60) + ";p:a=bbbbbb");
        check.due("60 to 360", v.pass(1), -3);
    }

    // Promise 12: "BAD"; classes 0 any, 1 WHOLE, 2 FRONT.
    private static void pileBad() {
        for (int sort : new int[] {LEAST, -4, -1, 3, 4, MOST}) {
            twins.refuses("pile(" + sort + ")", x -> x.pile(sort), -1);
            PhraseSwaps y = Check.of(";p:a=");
            check.due("pile(" + sort + ") where there is none", y.pile(sort), -1);
            check.due("none still", y.put(0), -11);
        }
    }

    // "how many RULES could come to it".
    private static void pileCounts() {
        PhraseSwaps x = new PhraseSwaps();
        for (int sort = 0; sort <= 2; sort++) {
            check.due("pile of no rules", x.pile(sort), 0);
        }
        PhraseSwaps y = Check.of(";p:a=;w:a=;f:a=;t:a=;o:a=;p:a=;w:a=;w:a=;t:a=;w:a=");
        check.due("any of ten", y.pile(0), 10);
        check.due("whole of ten, more than 4", y.pile(1), 6);
        check.due("front of ten", y.pile(2), 2);
        y.turn(2);
        check.due("an off one too", y.pile(2), 2);
        for (int kind = 0; kind < 5; kind++) {
            PhraseSwaps z = Check.of(";" + "pwfto".charAt(kind) + ":a=");
            check.due("any of kind " + kind, z.pile(0), 1);
            check.due("whole of kind " + kind, z.pile(1), kind == 1 || kind == 3 ? 1 : 0);
            check.due("front of kind " + kind, z.pile(2), kind == 2 || kind == 4 ? 1 : 0);
        }
    }

    // "none at first; a new one holds none".
    private static void pileIsNew() {
        PhraseSwaps x = Check.of(";w:a=;w:a=;w:a=;w:a=;w:a=");
        x.pile(1);
        for (int rule = 0; rule < 4; rule++) {
            x.put(rule);
        }
        check.due("the same class anew", x.pile(1), 5);
        check.due("it holds none", x.count(4), 0);
        check.due("what was on the old one", x.put(0), 1);
        check.due("another class", x.pile(0), 5);
        check.due("it holds none", x.count(4), 0);
        check.due("its class", x.count(5), 0);
        check.due("nothing to undo", x.count(6), 0);
    }

    private static void fullPile(PhraseSwaps x) {
        Check.job(x, "ab_a;w:a=;t:a=;w:b=;w:a=;w:b=;p:a=");
        x.image();
        x.turn(5);
        x.pile(1);
        for (int rule = 0; rule < 4; rule++) {
            x.put(rule);
        }
        Twins.sheets(x);
        Check.tell(x, "z_");
    }

    // Promise 13: "BAD; NULL: there is none; NOT: it is on it; INDEX: it holds 4; STORE: it is not of the class", in this order.
    private static void putOrder() {
        for (int rule : new int[] {LEAST, -1, 6, 10, 32, MOST}) {
            twins.refuses("put(" + rule + ") BAD", DoneBoundTests::fullPile, x -> x.put(rule), -1);
            check.due("put(" + rule + ") BAD ahead of NULL", Check.of(";p:a=").put(rule), -1);
        }
        twins.refuses("put NULL", x -> Check.job(x, ";p:a=;w:b="), x -> x.put(1), -11);
        twins.refuses("put NOT ahead of INDEX", DoneBoundTests::fullPile, x -> x.put(3), -2);
        twins.refuses("put INDEX", DoneBoundTests::fullPile, x -> x.put(4), -13);
        twins.refuses("put INDEX ahead of STORE", DoneBoundTests::fullPile, x -> x.put(5), -13);
        twins.refuses("put NOT", x -> x.put(1), -2);
        PhraseSwaps y = new PhraseSwaps();
        fullPile(y);
        y.restore();
        check.due("put NULL though it was on the old one", y.put(3), -11);
        fullPile(y);
        Check.job(y, ";p:a=");
        check.due("put NULL behind a job", y.put(0), -11);
    }

    // "(up to 4 of them, unlike ones)".
    private static void putUpTo4() {
        PhraseSwaps x = Check.of(Check.many(";o:a=", 10));
        x.pile(0);
        int set = 0;
        for (int k = 1; k <= 4; k++) {
            check.due("put " + k, x.put(10 - k), k);
            check.due("again " + k, x.put(10 - k), -2);
            set |= 1 << 10 - k;
            check.due("set " + k, x.count(4), set);
        }
        check.due("a fifth", x.put(0), -13);
        check.due("the set stays", x.count(4), set);
        check.due("nothing to undo", x.count(6), 0);
    }

    // "of a class: 0 any, 1 WHOLE (WHOLE, TURNED), 2 FRONT (FRONT, ONCE)".
    private static void putByClass() {
        for (int sort = 0; sort <= 2; sort++) {
            for (int kind = 0; kind < 5; kind++) {
                PhraseSwaps x = Check.of(";" + "pwfto".charAt(kind) + ":a=");
                boolean fits = sort == 0 || sort == 1 && (kind == 1 || kind == 3) || sort == 2 && (kind == 2 || kind == 4);
                x.pile(sort);
                check.due("put of kind " + kind + " to class " + sort, x.put(0), fits ? 1 : -15);
                check.due("the set", x.count(4), fits ? 1 : 0);
            }
        }
        twins.refuses("put STORE", DoneBoundTests::frontPile, x -> x.put(0), -15);
    }

    private static void frontPile(PhraseSwaps x) {
        Twins.storyWithTape(x);
        x.pile(2);
        x.put(2);
    }

    // Promise 14: "NULL".
    private static void passPileNull() {
        check.due("passPile of a new object", new PhraseSwaps().passPile(), -11);
        twins.refuses("passPile NULL", x -> Check.job(x, "a;p:a=b"), x -> x.passPile(), -11);
        PhraseSwaps x = Check.of("a;p:a=b");
        x.pile(0);
        check.due("passPile of an empty one", x.passPile(), 0);
        check.due("it may be undone", x.count(6), 1);
        x.put(0);
        check.due("passPile", x.passPile(), 1);
        check.due("the pile stays", x.count(4), 1);
    }

    // Promise 14: "FULL".
    private static void passPileFull() {
        twins.refuses("61 by the pile", DoneBoundTests::sixty, x -> x.passPile(), -3);
        PhraseSwaps x = new PhraseSwaps();
        sixty(x);
        x.pile(2);
        x.put(1);
        check.due("60 by the pile", x.passPile(), 1);
        check.due("60", x.count(0), 60);
    }

    private static void passPileByOnesThatAreOn() {
        PhraseSwaps x = Check.of("aabb;p:a=c;p:b=d;p:c=e");
        x.pile(0);
        x.put(0);
        x.put(1);
        x.turn(1);
        check.due("by one", x.passPile(), 2);
        check.dueText("line", Check.line(x), "ccbb");
        check.due("others are told nothing", x.count(2), 5);
        x.turn(1);
        check.due("by the other", x.passPile(), 2);
        check.dueText("line", Check.line(x), "ccdd");
    }

    // Promise 15: "NONE: none is known".
    private static void undoNone() {
        twins.refuses("undo NONE", x -> {
            Twins.storyWithTape(x);
            x.undo();
            x.undo();
            x.undo();
        }, x -> x.undo(), -4);
        check.due("undo of a new object", new PhraseSwaps().undo(), -4);
    }

    // "8 are known, older ones lost".
    private static void undoKnows8() {
        for (int deeds = 0; deeds <= 20; deeds++) {
            PhraseSwaps x = Check.of("a");
            for (int k = 1; k <= deeds; k++) {
                x.change(0, 'a' + k);
                check.due("known of " + k, x.count(6), Math.min(k, 8));
            }
            int known = Math.min(deeds, 8);
            for (int k = 1; k <= known; k++) {
                check.due("undo " + k + " of " + deeds, x.undo(), known - k);
                check.due("letter then", x.at(0, 0), 'a' + deeds - k);
            }
            check.due("no more of " + deeds, x.undo(), -4);
            check.due("letter stays", x.at(0, 0), 'a' + deeds - known);
        }
        // What was undone makes room again.
        PhraseSwaps x = Check.of("a");
        for (int k = 1; k <= 8; k++) {
            x.change(0, 'a' + k);
        }
        x.undo();
        x.undo();
        x.change(0, 'x');
        x.change(0, 'y');
        check.due("eight", x.count(6), 8);
        x.change(0, 'z');
        check.due("eight still", x.count(6), 8);
        for (int left = 7; left >= 0; left--) {
            check.due("undo", x.undo(), left);
        }
        check.due("the first is lost", x.at(0, 0), 'b');
    }

    // "the latest PASS, CHANGE, SWITCH is as it had not been".
    private static void undoOfEachDeed() {
        twins.alike("an undone pass", Twins::story, x -> {
            Twins.story(x);
            check.due("pass", x.pass(3), 0);
            check.due("undo", x.undo(), 3);
        });
        twins.alike("an undone pass that uses a rule", Twins::story, x -> {
            Twins.story(x);
            x.turn(2);
            x.change(0, 'a');
            check.due("pass", x.pass(4), 1);
            check.due("undo", x.undo(), 5);
            check.due("undo", x.undo(), 4);
            check.due("undo", x.undo(), 3);
        });
        twins.alike("an undone pass by the pile", Twins::story, x -> {
            Twins.story(x);
            x.passPile();
            check.due("undo", x.undo(), 3);
        });
        twins.alike("an undone change", Twins::story, x -> {
            Twins.story(x);
            x.change(4, '_');
            check.due("undo", x.undo(), 3);
        });
        twins.alike("an undone switch", Twins::story, x -> {
            Twins.story(x);
            x.turn(0);
            check.due("undo", x.undo(), 3);
        });
    }

    // PILES, SHEETS, IMAGES are no PASS, CHANGE, SWITCH.
    private static void undoOfWhatIsNoDeed() {
        PhraseSwaps x = Check.of("ab;p:a=xy");
        x.change(0, 'b');
        x.change(0, 'a');
        x.pile(0);
        x.put(0);
        x.image();
        x.sheet(0, 0, 3);
        x.item(0, 0, 0, 'a');
        x.film(0, 0, 0, 0);
        x.copy(0, 0, 0, 1, 2);
        x.came(0, 0, 0, 0, 3);
        x.rest();
        check.due("two", x.count(6), 2);
        check.due("undo", x.undo(), 1);
        check.due("the pile stays", x.count(4), 1);
        check.due("the sheet stays", x.drop(0), 3);
        check.dueText("line", Check.line(x), "bb");
    }

    // "a JOB told, a new RULE leave nothing to be UNDONE"; what is refused leaves it.
    private static void undoBehindJobAndRule() {
        PhraseSwaps x = Check.of("ab;p:a=xy");
        x.change(0, 'b');
        check.due("a fault of a job", Check.job(x, "!"), -20);
        check.due("a fault of a rule", Check.rule(x, "!"), -20);
        check.due("one still", x.count(6), 1);
        check.due("a rule", Check.rule(x, "p:b=c"), 1);
        check.due("none behind a rule", x.count(6), 0);
        check.due("undo", x.undo(), -4);
        check.dueText("line stays", Check.line(x), "bb");
        x.turn(0);
        check.due("a job", Check.job(x, "zz;p:b=c"), 1);
        check.due("none behind a job", x.count(6), 0);
        check.due("undo", x.undo(), -4);
        check.due("on", x.count(2), 1);
    }
}
