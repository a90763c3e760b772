/** Promises 1 to 8: a new object, the tape, jobs, rules, the line. */
public final class LineTests {
    private static final Check check = new Check();

    public static void main(String[] args) {
        newObject();
        typing();
        jobs();
        jobFaults();
        jobInPlaceOfAll();
        rules();
        ruleFaults();
        ofRules();
        spelling();
        places();
        counts();
        check.finish("LineTests");
    }

    private static void newObject() {
        PhraseSwaps x = new PhraseSwaps();
        int[] due = {0, 0, 0, 0, -4, -4, 0};
        for (int what = 0; what < due.length; what++) {
            check.due("new count " + what, x.count(what), due[what]);
        }
        check.due("new at", x.at(0, 0), -1);
        check.due("new of", x.of(0, 0), -1);
        check.due("new undo", x.undo(), -4);
        check.due("new restore", x.restore(), -4);
        check.due("new passPile", x.passPile(), -11);
        for (int sheet = 0; sheet < 4; sheet++) {
            check.due("new drop", x.drop(sheet), -11);
        }
        check.due("new type", x.type('a'), 1);
    }

    private static void typing() {
        PhraseSwaps x = new PhraseSwaps();
        check.due("type 31", x.type(31), -1);
        check.due("type 127", x.type(127), -1);
        check.due("type -5", x.type(-5), -1);
        check.due("type least", x.type(Integer.MIN_VALUE), -1);
        check.due("type most", x.type(Integer.MAX_VALUE), -1);
        check.due("type 32", x.type(32), 1);
        check.due("type 126", x.type(126), 2);
        for (int k = 3; k <= 150; k++) {
            check.due("type " + k, x.type('a'), k);
        }
        check.due("type 151st", x.type('a'), -3);
        check.due("type bad when full", x.type(31), -1);
        check.due("job of the full tape", x.job(), -21);
        check.due("type behind a job", x.type('a'), 1);
        check.due("rule of a short tape", x.rule(), -20);
        check.due("type behind a rule", x.type('a'), 1);
    }

    private static void jobs() {
        PhraseSwaps x = new PhraseSwaps();
        check.due("empty job", x.job(), 0);
        check.due("blank job", Check.job(x, "   "), 0);
        check.due("line alone", Check.job(x, "a_z"), 0);
        check.dueText("line alone", Check.line(x), "a_z");
        check.due("rule alone", Check.job(x, ";p:a="), 1);
        check.due("60 letters", Check.job(x, Check.many("abcdef", 10)), 0);
        check.due("60 letters", x.count(0), 60);
        check.due("10 rules", Check.job(x, "a" + Check.many(";p:a=b", 10)), 10);
        check.due("all on", x.count(2), 1023);
        check.due("6 letters each", Check.job(x, ";o:aaaaaa=bbbbbb"), 1);
        check.due("blanks", Check.job(x, " a b ; t : a b = c d "), 1);
        check.dueText("blanks", Check.line(x), "ab");
        check.due("blanks, kind", x.of(0, 0), 3);
        check.due("blanks, phrase", x.of(0, 1), 2);
    }

    private static void jobFaults() {
        PhraseSwaps x = Check.of("keep;f:k=x");
        x.pile(0);
        x.change(0, 'z');
        Object[] faults = {
            "A", -20, " A", -21, "a;", -22, "a; ", -23, "a;x", -22, "a; x", -23, "a;p", -23, "a;p=", -23,
            "a;p:", -24, "a;p:=", -24, "a;p:a", -25, "a;p:a;", -25, "a;p:a= b;", -29, "a;p:a=:", -26,
            ";p:aaaaaaa=", -29, ";p:a=bbbbbbb", -31, ";p:a a a a a a  a=", -36, "a;;", -22, ":", -20, "=", -20,
            "a1", -21, "aB", -21, "a;p:a=b a=", -29, "a;p: a B", -27,
            Check.many("a", 61), -80, Check.many("a", 60) + " a", -81, Check.many(";p:a=", 11), -70,
            Check.many(";p:a=", 10) + "  ;", -72,
        };
        for (int k = 0; k + 1 < faults.length; k += 2) {
            check.due("job " + faults[k], Check.job(x, (String) faults[k]), (Integer) faults[k + 1]);
        }
        check.due("the tape is empty behind a fault", x.type('A'), 1);
        check.due("a fault of this letter alone", x.job(), -20);
        check.dueText("a fault keeps the line", Check.line(x), "zeep");
        check.due("a fault keeps the rules", x.count(1), 1);
        check.due("a fault keeps the pile", x.count(5), 0);
        check.due("a fault keeps what may be undone", x.count(6), 1);
    }

    private static void jobInPlaceOfAll() {
        PhraseSwaps x = Check.of("aab;p:a=b;w:b=c");
        x.turn(0);
        x.pass(2);
        x.pile(1);
        x.put(1);
        x.sheet(0, 2, 3);
        check.due("new job", Check.job(x, "bb;o:b="), 1);
        check.dueText("new line", Check.line(x), "bb");
        check.dueText("new sources", Check.sources(x), "0 1 ");
        check.due("rules", x.count(1), 1);
        check.due("on", x.count(2), 1);
        check.due("no pile", x.count(4), -4);
        check.due("no class", x.count(5), -4);
        check.due("no pile to put to", x.put(0), -11);
        check.due("nothing to undo", x.undo(), -4);
        check.due("sheets stay", x.drop(0), 3);
        x.image();
        Check.job(x, "");
        check.due("line gone", x.count(0), 0);
        check.due("an image outlives a job", x.restore(), 1);
        check.dueText("line of the image", Check.line(x), "bb");
    }

    private static void rules() {
        PhraseSwaps x = Check.of("ab");
        x.change(0, 'b');
        x.pile(2);
        check.due("first", Check.rule(x, "p:ab=c"), 0);
        check.due("undo behind a rule", x.undo(), -4);
        check.due("pile stays", x.count(5), 2);
        x.turn(0);
        check.due("second", Check.rule(x, " f : b = "), 1);
        check.due("the first stays off", x.count(2), 2);
        check.due("new one fits the pile", x.put(1), 1);
        for (int k = 2; k < 10; k++) {
            check.due("rule " + k, Check.rule(x, "w:a_=b"), k);
        }
        x.change(0, 'a');
        check.due("eleventh", Check.rule(x, "p:a=b"), -3);
        check.due("tape empty behind FULL", x.type('a'), 1);
        check.due("fault ahead of FULL", x.rule(), -20);
        check.due("refused keeps undo", x.count(6), 1);
        check.due("ten", x.count(1), 10);
    }

    private static void ruleFaults() {
        PhraseSwaps x = Check.of("ab;p:a=");
        x.change(0, 'b');
        Object[] faults = {
            "", -20, "  ", -22, "p", -21, "p:", -22, "p:a", -23, "p:=", -22, "q:a=", -20, ";p:a=", -20, "p:a=;", -24,
            "p:a=b;p:a=", -25, "p:aaaaaaa=", -28, "p:a=bbbbbbb", -30, "P:a=", -20, "p:a =b =", -27,
        };
        for (int k = 0; k + 1 < faults.length; k += 2) {
            check.due("rule " + faults[k], Check.rule(x, (String) faults[k]), (Integer) faults[k + 1]);
        }
        check.due("no rule more", x.count(1), 1);
        check.due("undo kept", x.count(6), 1);
        check.due("of the rule that stays", x.of(0, 1), 1);
    }

    private static void ofRules() {
        PhraseSwaps x = Check.of("aa_a;p:a=;w:ab=c;f:abc=cd;t:a_b=def;o:aaaaaa=abcdef");
        for (int k = 0; k < 5; k++) {
            check.due("kind " + k, x.of(k, 0), k);
            check.due("gift " + k, x.of(k, 2), k < 4 ? k : 6);
            check.due("on " + k, x.of(k, 3), 1);
        }
        int[] lengths = {1, 2, 3, 3, 6};
        for (int k = 0; k < 5; k++) {
            check.due("phrase " + k, x.of(k, 1), lengths[k]);
        }
        check.due("uses", x.of(0, 4), 3);
        check.due("no uses", x.of(1, 4), 0);
        x.turn(0);
        check.due("off", x.of(0, 3), 0);
        check.due("uses when off", x.of(0, 4), 0);
        check.due("rule 5", x.of(5, 0), -1);
        check.due("rule -1", x.of(-1, 0), -1);
        check.due("what 5", x.of(0, 5), -1);
        check.due("what -1", x.of(0, -1), -1);
        check.due("far rule", x.of(Integer.MAX_VALUE, 3), -1);
        check.due("rule 32", x.of(32, 3), -1);
    }

    private static void spelling() {
        PhraseSwaps x = Check.of(";t:ab_=xyz;p:abcdef=uvw");
        String phrase = "ab_";
        String turned = "zyx";
        for (int k = 0; k < 3; k++) {
            check.due("phrase " + k, x.spelt(0, 0, k), phrase.charAt(k));
            check.due("turned " + k, x.spelt(0, 1, k), turned.charAt(k));
            check.due("gift " + k, x.spelt(1, 1, k), "uvw".charAt(k));
        }
        check.due("last", x.spelt(1, 0, 5), 'f');
        check.due("behind the phrase", x.spelt(0, 0, 3), -4);
        check.due("behind the gift", x.spelt(0, 1, 3), -4);
        check.due("place 6", x.spelt(0, 0, 6), -1);
        check.due("place -1", x.spelt(0, 0, -1), -1);
        check.due("what 2", x.spelt(0, 2, 0), -1);
        check.due("what -1", x.spelt(0, -1, 0), -1);
        check.due("rule 2", x.spelt(2, 0, 0), -1);
        check.due("rule -1", x.spelt(-1, 0, 0), -1);
    }

    private static void places() {
        PhraseSwaps x = Check.of("a_z;p:a_=bb");
        check.due("letter", x.at(1, 0), '_');
        check.due("source", x.at(2, 1), 2);
        check.due("place 3", x.at(3, 0), -1);
        check.due("place -1", x.at(-1, 1), -1);
        check.due("what 2", x.at(0, 2), -1);
        check.due("what -1", x.at(0, -1), -1);
        x.pass(1);
        check.dueText("line", Check.line(x), "bbz");
        check.dueText("sources", Check.sources(x), "0 0 2 ");
    }

    private static void counts() {
        PhraseSwaps x = Check.of("ab;p:ab=x;p:a=y;w:b=;t:q=");
        x.turn(3);
        check.due("letters", x.count(0), 2);
        check.due("rules", x.count(1), 4);
        check.due("on", x.count(2), 7);
        check.due("idle", x.count(3), 6);
        check.due("pile", x.count(4), -4);
        x.pile(0);
        check.due("empty pile", x.count(4), 0);
        check.due("its class", x.count(5), 0);
        x.put(3);
        check.due("pile with one", x.count(4), 8);
        check.due("undo", x.count(6), 1);
        check.due("what 7", x.count(7), -1);
        check.due("what -1", x.count(-1), -1);
    }
}
