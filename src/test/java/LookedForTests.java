/** Promises 16 to 24: what is looked for, images. */
public final class LookedForTests {
    private static final Check check = new Check();

    public static void main(String[] args) {
        comesOf();
        comesOfTooMany();
        usedAt();
        wentTo();
        rests();
        sureOf();
        leanOf();
        odds();
        manyOdds();
        images();
        nothingIsChanged();
        check.finish("LookedForTests");
    }

    private static void comesOf() {
        PhraseSwaps x = Check.of("ab_b;p:ab=xyz;w:b=;f:_=q");
        check.due("letters", x.comes(0, 0), 4);
        check.dueText("line", Check.made(x), "xyz_");
        check.due("source of a gift", x.comes(2, 2), 0);
        check.due("source of one that stays", x.comes(2, 3), 2);
        check.due("can be", x.comes(3, 0), 1);
        check.due("any place will do for how many", x.comes(0, -7), 4);
        check.due("any place will do for whether", x.comes(3, 9999), 1);
        check.due("place 4", x.comes(1, 4), -1);
        check.due("place 4", x.comes(2, 4), -1);
        check.due("place -1", x.comes(1, -1), -1);
        check.due("what 4", x.comes(4, 0), -1);
        check.due("what -1", x.comes(-1, 0), -1);
        x.turn(0);
        check.dueText("without an off one", Check.made(x), "ab_");
    }

    private static void comesOfTooMany() {
        PhraseSwaps x = Check.of(Check.many("a", 60) + ";p:a=uvwxyz;p:b=");
        check.due("360", x.comes(0, 0), 360);
        check.due("last letter", x.comes(1, 359), 'z');
        check.due("last source", x.comes(2, 359), 59);
        check.due("behind it", x.comes(1, 360), -1);
        check.due("can't be", x.comes(3, 0), 0);
        check.due("went", x.went(59), 354);
        check.due("uses", x.of(0, 4), 60);
        check.due("used", x.used(59), 0);
        check.due("idle", x.count(3), 2);
        check.due("lean leaves all", x.lean(1), 60);
        check.due("odds of all", x.longOdds(359, 3, 0), 3);
        check.due("odds of all, below", x.longOdds(359, 3, 1), 10);
        check.due("odds of 360", x.longOdds(360, 3, 0), 1);
        PhraseSwaps y = Check.of(Check.many("a", 60) + ";f:a=bb");
        check.due("61", y.comes(0, 0), 61);
        check.due("61 can't be", y.comes(3, 0), 0);
        PhraseSwaps z = Check.of(Check.many("a", 60) + ";f:a=b");
        check.due("60 can be", z.comes(3, 0), 1);
    }

    private static void usedAt() {
        PhraseSwaps x = Check.of("abab_b;p:ab=;p:b=c;o:b=d");
        int[] due = {0, -4, 0, -4, -4, 1};
        for (int place = 0; place < 6; place++) {
            check.due("used " + place, x.used(place), due[place]);
        }
        check.due("place 6", x.used(6), -1);
        check.due("place -1", x.used(-1), -1);
        x.turn(1);
        check.due("the next one", x.used(5), 2);
    }

    private static void wentTo() {
        PhraseSwaps x = Check.of("aabab;p:ab=xy;o:a=zz");
        check.dueText("line", Check.made(x), "zzxyxy");
        int[] due = {0, 2, -4, 4, -4, -4};
        for (int source = 0; source < 6; source++) {
            check.due("went " + source, x.went(source), due[source]);
        }
        check.due("59", x.went(59), -4);
        check.due("60", x.went(60), -1);
        check.due("-1", x.went(-1), -1);
        PhraseSwaps y = Check.of("ab;p:a=");
        y.pass(1);
        check.due("source, not place", y.went(1), 0);
        check.due("gone", y.went(0), -4);
    }

    private static void dueRest(String text, int want) {
        check.due("rest of " + text, Check.of(text).rest(), want);
    }

    private static void rests() {
        dueRest("", 0);
        dueRest("abc", 0);
        dueRest("abc;p:z=y", 0);
        dueRest("abc;p:a=a", 0);
        dueRest("abab;p:ab=ab", 0);
        dueRest("ab;p:ab=ba;p:b=b", 1);
        dueRest("abc;p:a=b", 1);
        dueRest("abc;p:a=b;p:b=c", 2);
        dueRest("ab;p:a=b;p:b=a", -4);
        dueRest("a;p:a=aa", -4);
        // Each pass takes one letter: by 20 all that there were, or not.
        dueRest(Check.many("a", 20) + ";o:a=", 20);
        dueRest(Check.many("a", 21) + ";o:a=", -4);
        dueRest(Check.many("a", 60) + ";f:a=bb", -4);
        dueRest(Check.many("a", 60) + ";o:a=b;p:b=cc", -4);
        PhraseSwaps x = Check.of("abc;p:a=b;p:b=c");
        x.turn(1);
        check.due("without an off one", x.rest(), 1);
        x.turn(0);
        check.due("none on", x.rest(), 0);
    }

    private static void dueSure(String text, int... want) {
        PhraseSwaps x = Check.of(text);
        for (int n = 0; n < want.length; n++) {
            check.due("sure " + n + " of " + text, x.sure(n), want[n]);
        }
        check.due("sure of more of " + text, x.sure(want.length), -1);
        check.due("sure of fewer of " + text, x.sure(-1), -1);
    }

    private static void sureOf() {
        dueSure("", 0);
        dueSure("abc", 0, 1, 2, 3);
        dueSure("abc;p:ab=x", 0, 0, 2, 3);
        dueSure("aac;p:ab=x", 0, 0, 1, 3);
        dueSure("ab_;w:ab=x", 0, 0, 0, 3);
        dueSure("ab;w:ab=x;p:ab=y", 0, 0, 0);
        // What is behind a shorter one does not matter if a longer one is sure.
        dueSure("abc;w:ab=x;p:abc=y", 0, 0, 0, 3);
        dueSure("ab;p:ab=y;w:ab=x", 0, 0, 2);
        dueSure("abab;p:ab=x;p:abab=y", 0, 0, 0, 0, 4);
        dueSure("abac;p:ab=x;p:abab=y", 0, 0, 0, 0, 4);
        dueSure("a_a;o:a=x;f:ab=y", 0, 0, 2, 2);
        dueSure("a_a;o:a=x", 0, 1, 2, 3);
        dueSure("ba;f:ab=x", 0, 1, 2);
        dueSure("b_a;f:ab=x", 0, 1, 2, 2);
        dueSure("_;w:_=x", 0, 0);
        dueSure("b;p:a=x", 0, 1);
        dueSure("ab_ab;o:ab=q", 0, 0, 2, 3, 4, 5);
        dueSure("ab_ab;o:ab=q;t:ab=r", 0, 0, 2, 3, 3, 3);
        PhraseSwaps x = Check.of("ab;p:abc=x");
        x.turn(0);
        check.due("an off one does not matter", x.sure(2), 2);
        PhraseSwaps y = Check.of(Check.many("a", 60));
        check.due("60", y.sure(60), 60);
        check.due("61", y.sure(61), -1);
    }

    private static void dueLean(String text, int rule, int letters) {
        PhraseSwaps x = Check.of(text);
        check.due("lean of " + text, x.lean(0), rule);
        check.due("lean letters of " + text, x.lean(1), letters);
    }

    private static void leanOf() {
        dueLean("aab", -4, -4);
        dueLean("aab;p:a=xy;p:b=xyz", 0, 5);
        dueLean("aab;p:b=xyz;p:a=xy;p:aa=q", 0, 2);
        dueLean("aab;p:c=;p:d=", 0, 3);
        dueLean("aab;p:a=;p:b=", 1, 1);
        dueLean(";p:a=;p:b=", 0, 0);
        PhraseSwaps x = Check.of("aab;p:a=xy;p:b=xyz");
        x.turn(0);
        check.due("of those on", x.lean(0), 1);
        check.due("letters", x.lean(1), 3);
        x.turn(1);
        check.due("none on", x.lean(0), -4);
        check.due("none on", x.lean(1), -4);
        check.due("what 2", x.lean(2), -1);
        check.due("what -1", x.lean(-1), -1);
    }

    private static void dueOdds(PhraseSwaps x, int m, int c, long above, long below) {
        check.due("odds " + m + " " + c + " above", x.longOdds(m, c, 0), above);
        check.due("odds " + m + " " + c + " below", x.longOdds(m, c, 1), below);
    }

    private static void odds() {
        PhraseSwaps x = Check.of("ab;p:a=xy;p:b=;p:ab=xyzq");
        // By which are on: none 2, a 3, b 1, a b 2, and 4 with the third.
        dueOdds(x, 0, 5, 0, 1);
        dueOdds(x, 1, 5, 1, 8);
        dueOdds(x, 2, 5, 3, 8);
        dueOdds(x, 3, 5, 1, 2);
        dueOdds(x, 4, 5, 1, 1);
        dueOdds(x, 1, 3, 63, 1000);
        dueOdds(x, 2, 3, 63 + 27 + 147, 1000);
        dueOdds(x, 3, 0, 0, 1);
        dueOdds(x, 4, 0, 1, 1);
        dueOdds(x, 1, 10, 0, 1);
        dueOdds(x, 2, 10, 1, 1);
        dueOdds(x, 360, 1, 1, 1);
        x.turn(2);
        dueOdds(x, 1, 3, 21, 100);
        check.due("m 361", x.longOdds(361, 0, 0), -1);
        check.due("m -1", x.longOdds(-1, 0, 0), -1);
        check.due("c 11", x.longOdds(0, 11, 0), -1);
        check.due("c -1", x.longOdds(0, -1, 0), -1);
        check.due("what 2", x.longOdds(0, 0, 2), -1);
        check.due("what -1", x.longOdds(0, 0, -1), -1);
        dueOdds(Check.of("ab"), 1, 4, 0, 1);
        dueOdds(Check.of("ab"), 2, 4, 1, 1);
        PhraseSwaps y = Check.of("aa;o:a=;p:a=bb");
        // Both: 2, the first alone 1, the second alone 4, none 2.
        dueOdds(y, 1, 1, 9, 100);
        dueOdds(y, 2, 1, 91, 100);
        dueOdds(y, 3, 1, 91, 100);
    }

    private static void manyOdds() {
        StringBuilder text = new StringBuilder("abcdefghij");
        for (int k = 0; k < 10; k++) {
            text.append(";p:").append((char) ('a' + k)).append('=');
        }
        PhraseSwaps x = Check.of(text.toString());
        dueOdds(x, 0, 3, 282475249L, 10000000000L);
        dueOdds(x, 9, 3, 9999940951L, 10000000000L);
        dueOdds(x, 0, 1, 3486784401L, 10000000000L);
        dueOdds(x, 0, 9, 1, 10000000000L);
        dueOdds(x, 0, 5, 1, 1024);
    }

    private static void images() {
        PhraseSwaps x = Check.of("aab;p:a=b;w:b=c");
        check.due("no image", x.restore(), -4);
        x.turn(1);
        x.pass(1);
        x.pile(0);
        x.put(0);
        Check.tell(x, "zz");
        x.sheet(1, 0, 5);
        check.due("image", x.image(), 1);
        check.due("an image keeps the pile", x.count(4), 1);
        x.undo();
        x.undo();
        x.change(0, 'z');
        x.drop(1);
        x.sheet(2, 1, 7);
        check.due("the tape goes on", x.type('y'), 3);
        check.due("restore", x.restore(), 1);
        check.dueText("line", Check.line(x), "bbb");
        check.due("on", x.count(2), 1);
        check.due("to undo", x.count(6), 2);
        check.due("no pile", x.count(4), -4);
        check.due("no pile to pass by", x.passPile(), -11);
        check.due("sheets are not kept", x.drop(1), -11);
        check.due("sheets stay", x.drop(2), 7);
        check.due("the tape stays", x.type('x'), 4);
        check.due("undo the pass", x.undo(), 1);
        check.dueText("line", Check.line(x), "aab");
        check.due("undo the switch", x.undo(), 0);
        check.due("on", x.count(2), 3);
        x.job();
        check.dueText("a job", Check.line(x), "zzyx");
        Check.rule(x, "o:z=q");
        check.due("restore again", x.restore(), 1);
        check.due("rules", x.count(1), 2);
        check.due("kind", x.of(1, 0), 1);
        check.due("phrase", x.spelt(0, 0, 0), 'a');
        check.due("to undo again", x.count(6), 2);
        x.change(0, '_');
        x.image();
        x.change(1, '_');
        x.restore();
        check.dueText("the later image", Check.line(x), "_bb");
        check.due("to undo then", x.count(6), 3);
    }

    private static void nothingIsChanged() {
        PhraseSwaps x = Check.of("ab_ab;p:ab=xyz;o:b=c");
        x.pile(0);
        x.rest();
        x.sure(3);
        x.lean(0);
        x.longOdds(3, 3, 0);
        x.comes(0, 0);
        x.used(0);
        x.went(0);
        x.of(0, 4);
        x.count(3);
        Check.write(x, 0, 0, 2, "ab");
        x.came(0, 0, 0, 0, 2);
        check.dueText("line", Check.line(x), "ab_ab");
        check.dueText("sources", Check.sources(x), "0 1 2 3 4 ");
        check.due("kind", x.of(0, 0), 0);
        check.due("on", x.count(2), 3);
        check.due("undo", x.count(6), 0);
        check.due("pile", x.count(4), 0);
    }
}
