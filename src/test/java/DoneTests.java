/** Promises 9 to 15: what is done, and undone. */
public final class DoneTests {
    private static final Check check = new Check();

    public static void main(String[] args) {
        changes();
        switches();
        kinds();
        passes();
        sourcesThroughPasses();
        full();
        piles();
        passByPile();
        undone();
        undoKnowsEight();
        check.finish("DoneTests");
    }

    private static void changes() {
        PhraseSwaps x = Check.of("ab;p:a=bb");
        check.due("place 2", x.change(2, 'a'), -1);
        check.due("place -1", x.change(-1, 'a'), -1);
        int[] bad = {'A', '{', '`', ' ', '^', 0, -1, 95 + 256};
        for (int letter : bad) {
            check.due("letter " + letter, x.change(0, letter), -1);
        }
        check.due("so already", x.change(0, 'a'), -2);
        check.due("nothing to undo", x.count(6), 0);
        check.due("a to z", x.change(0, 'z'), 'a');
        check.due("z to _", x.change(0, '_'), 'z');
        check.due("_ to a", x.change(0, 'a'), '_');
        check.due("three to undo", x.count(6), 3);
        x.pass(1);
        check.due("changed", x.change(1, 'q'), 'b');
        check.dueText("line", Check.line(x), "bqb");
        check.dueText("its source stays", Check.sources(x), "0 0 1 ");
    }

    private static void switches() {
        PhraseSwaps x = Check.of("ab;p:a=b;p:b=c");
        check.due("rule 2", x.turn(2), -1);
        check.due("rule -1", x.turn(-1), -1);
        check.due("rule 31", x.turn(31), -1);
        check.due("off", x.turn(1), 0);
        check.due("set", x.count(2), 1);
        check.due("off is not used", x.pass(3), 1);
        check.dueText("line", Check.line(x), "bb");
        check.due("on", x.turn(1), 1);
        check.due("used again", x.pass(3), 2);
        check.dueText("line then", Check.line(x), "cc");
        check.due("four to undo", x.count(6), 4);
    }

    private static void dueLine(String text, String want) {
        PhraseSwaps x = Check.of(text);
        x.pass((1 << x.count(1)) - 1);
        check.dueText(text, Check.line(x), want);
    }

    private static void kinds() {
        dueLine("aba_ab_b;p:ab=x", "xa_x_b");
        dueLine("ab_abc_cab_ab;w:ab=x", "x_abc_cab_x");
        dueLine("ab_abc_cab_ab;f:ab=x", "x_xc_cab_x");
        dueLine("ab_abc_cab_ab;t:ab=xyz", "zyx_abc_cab_zyx");
        dueLine("cab_ab_abc_ab;o:ab=x", "cab_x_abc_ab");
        dueLine("a_a;w:_=x", "a_a");
        dueLine("__a;w:_=x", "x_a");
        dueLine("_a_;w:_a_=x", "x");
        dueLine("b_a_;f:_a=x", "b_a_");
        dueLine("aab;f:a=b", "bab");
        // What stands ahead is a letter of the old line, though it was exchanged.
        dueLine("ab;p:a=_;w:b=x", "_b");
        dueLine("_b;p:_=a;w:b=x", "ax");
        dueLine("abab;p:ab=;p:b=x", "");
        dueLine("zab;f:a=x;p:b=y", "zay");
        dueLine("az_za;w:a=q", "az_za");
        dueLine("z_a;f:a=q;w:z=r", "r_q");
    }

    private static void passes() {
        // The leftmost first, then the longest, then the first of like ones.
        dueLine("abcd;p:bcd=x;p:ab=y", "ycd");
        dueLine("abcd;p:a=x;p:abc=y;p:ab=z", "yd");
        dueLine("abab;p:ab=x;p:ab=y", "xx");
        dueLine("ab_ab;o:ab=x;p:ab=y", "x_y");
        dueLine("abcd;w:abc=x;p:ab=y", "ycd");
        dueLine("aaaa;p:aa=a", "aa");
        dueLine("aaaaa;p:aa=aaa", "aaaaaaa");
        dueLine(";p:aa=aaa", "");
        dueLine("abc", "abc");
        PhraseSwaps x = Check.of("abab;p:ab=x;p:a=y;p:b=z");
        check.due("by none", x.pass(0), 0);
        check.dueText("line stays", Check.line(x), "abab");
        check.due("by 1 and 2", x.pass(6), 4);
        check.dueText("line", Check.line(x), "yzyz");
        check.due("by none that stands", x.pass(7), 0);
        check.due("set 8", x.pass(8), -1);
        check.due("set 15", x.pass(15), -1);
        check.due("set -1", x.pass(-1), -1);
        check.due("set least", x.pass(Integer.MIN_VALUE), -1);
        check.due("set most", x.pass(Integer.MAX_VALUE), -1);
        check.due("to undo", x.count(6), 3);
        PhraseSwaps y = Check.of("a_a;o:a=b");
        check.due("once in a pass", y.pass(1), 1);
        check.due("once in the next", y.pass(1), 1);
        check.dueText("both", Check.line(y), "b_b");
    }

    private static void sourcesThroughPasses() {
        PhraseSwaps x = Check.of("xaby;p:ab=cde;p:d=pq;p:xc=r;p:ey=");
        check.due("first", x.pass(1), 1);
        check.dueText("line 1", Check.line(x), "xcdey");
        check.dueText("sources 1", Check.sources(x), "0 1 1 1 3 ");
        check.due("second", x.pass(15), 3);
        check.dueText("line 2", Check.line(x), "rpq");
        check.dueText("sources 2", Check.sources(x), "0 1 1 ");
        PhraseSwaps y = Check.of("_ab;t:ab=xyz");
        y.pass(1);
        check.dueText("turned", Check.line(y), "_zyx");
        check.dueText("sources of turned", Check.sources(y), "0 1 1 1 ");
    }

    private static void full() {
        PhraseSwaps x = Check.of(Check.many("a", 10) + ";p:a=bbbbbb;p:b=bb");
        check.due("to 60", x.pass(1), 10);
        check.due("60", x.count(0), 60);
        check.due("to 120", x.pass(2), -3);
        check.due("refused leaves nothing to undo", x.count(6), 1);
        check.due("refused keeps the line", x.count(0), 60);
        x.pile(0);
        x.put(1);
        check.due("pile to 120", x.passPile(), -3);
        check.due("still one to undo", x.count(6), 1);
        PhraseSwaps y = Check.of(Check.many("a", 60) + ";p:a=;f:a=b");
        check.due("60 to none", y.pass(1), 60);
        check.due("none", y.count(0), 0);
        PhraseSwaps z = Check.of(Check.many("a", 59) + ";f:a=bb");
        check.due("59 and one", z.pass(1), 1);
        check.due("60 of 59", z.count(0), 60);
        PhraseSwaps w = Check.of(Check.many("a", 60) + ";f:a=bb");
        check.due("60 and one", w.pass(1), -3);
    }

    private static void piles() {
        PhraseSwaps x = Check.of(";p:a=;w:a=;f:a=;t:a=;o:a=;w:b=;w:c=;t:d=");
        check.due("no pile", x.put(0), -11);
        check.due("no rule, no pile", x.put(8), -1);
        check.due("class 3", x.pile(3), -1);
        check.due("class -1", x.pile(-1), -1);
        check.due("refused makes none", x.count(5), -4);
        check.due("any", x.pile(0), 8);
        check.due("whole", x.pile(1), 5);
        check.due("refused keeps it", x.pile(7), -1);
        check.due("class", x.count(5), 1);
        check.due("plain", x.put(0), -15);
        check.due("front", x.put(2), -15);
        check.due("once", x.put(4), -15);
        check.due("whole", x.put(1), 1);
        check.due("again", x.put(1), -2);
        check.due("turned", x.put(3), 2);
        check.due("third", x.put(5), 3);
        check.due("fourth", x.put(6), 4);
        check.due("set", x.count(4), 2 + 8 + 32 + 64);
        check.due("fifth", x.put(7), -13);
        check.due("fifth of another class", x.put(0), -13);
        check.due("again when full", x.put(6), -2);
        check.due("no such rule", x.put(8), -1);
        check.due("rule -1", x.put(-1), -1);
        check.due("front", x.pile(2), 2);
        check.due("a new one is empty", x.count(4), 0);
        check.due("front", x.put(2), 1);
        check.due("once", x.put(4), 2);
        check.due("whole", x.put(1), -15);
        check.due("turned", x.put(3), -15);
        check.due("plain", x.put(0), -15);
        x.turn(2);
        check.due("an off one may come to it", x.pile(2), 2);
        check.due("and does", x.put(2), 1);
    }

    private static void passByPile() {
        PhraseSwaps x = Check.of("ab_b;p:a=c;w:b=d;p:b=e");
        check.due("none", x.passPile(), -11);
        x.pile(0);
        check.due("empty", x.passPile(), 0);
        check.due("to undo", x.count(6), 1);
        x.put(1);
        check.due("by whole", x.passPile(), 1);
        check.dueText("line", Check.line(x), "ab_d");
        check.due("the pile stays", x.count(4), 2);
        x.put(0);
        x.put(2);
        x.turn(2);
        check.due("without an off one", x.passPile(), 1);
        check.dueText("line", Check.line(x), "cb_d");
    }

    private static void undone() {
        PhraseSwaps x = Check.of("aab;p:a=xy;p:b=");
        x.pass(3);
        check.dueText("passed", Check.line(x), "xyxy");
        x.change(3, '_');
        x.turn(1);
        x.pile(0);
        x.put(1);
        check.due("undo the switch", x.undo(), 2);
        check.due("both on", x.count(2), 3);
        check.dueText("line stays", Check.line(x), "xyx_");
        check.due("the pile stays", x.count(4), 2);
        check.due("undo the change", x.undo(), 1);
        check.dueText("line before", Check.line(x), "xyxy");
        check.due("undo the pass", x.undo(), 0);
        check.dueText("line at first", Check.line(x), "aab");
        check.dueText("sources at first", Check.sources(x), "0 1 2 ");
        check.due("none more", x.undo(), -4);
        check.dueText("line stays at first", Check.line(x), "aab");
        x.turn(0);
        x.turn(1);
        x.pass(0);
        check.due("undo pass alone", x.undo(), 2);
        check.due("switches stay", x.count(2), 0);
        x.undo();
        check.due("one back", x.count(2), 2);
    }

    private static void undoKnowsEight() {
        PhraseSwaps x = Check.of("a");
        for (int k = 1; k <= 11; k++) {
            x.change(0, 'a' + k);
            check.due("known " + k, x.count(6), Math.min(k, 8));
        }
        for (int k = 1; k <= 8; k++) {
            check.due("undo " + k, x.undo(), 8 - k);
            check.due("letter " + k, x.at(0, 0), 'a' + 11 - k);
        }
        check.due("the ninth is lost", x.undo(), -4);
        check.due("letter stays", x.at(0, 0), 'd');
    }
}
