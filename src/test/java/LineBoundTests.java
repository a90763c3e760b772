/** The boundary cases of promises 1 to 8: a new object, THE TAPE, TEXTS and their FAULTS, RULES, THE LINE. */
public final class LineBoundTests {
    private static final Check check = new Check();
    private static final Twins twins = new Twins(check);
    private static final int LEAST = Integer.MIN_VALUE;
    private static final int MOST = Integer.MAX_VALUE;

    public static void main(String[] args) {
        nothingAtFirst();
        the512thCall();
        typeBad();
        typeFull();
        tapeIsEmptyThen();
        tapeStaysElse();
        lineOf0To60();
        sourceOfEachIsItsPlace();
        rulesOfAJobUpTo10();
        phraseOf1To6();
        giftOf0To6();
        signsOfTheLine();
        signsOfAKind();
        signsOfAPhrase();
        signsOfAGift();
        signsBetween();
        faultIsBehindBlanks();
        faultAtTheEnd();
        blanksCountForNothing();
        faultOfAJobKeepsAll();
        jobInPlaceOfAll();
        faultOfARuleKeepsAll();
        ruleFull();
        newRuleIsOn();
        newRuleKeepsTheRest();
        newRulesAreOfTheNextPass();
        ofBounds();
        speltBounds();
        atBounds();
        countBounds();
        idleIsOnButNotUsed();
        check.finish("LineBoundTests");
    }

    // Promise 1: "Nothing."; "none at first", "nothing (at first)".
    private static void nothingAtFirst() {
        PhraseSwaps x = new PhraseSwaps();
        int[] counts = {0, 0, 0, 0, PhraseSwaps.NONE, PhraseSwaps.NONE, 0};
        for (int what = 0; what < counts.length; what++) {
            check.due("at first count " + what, x.count(what), counts[what]);
        }
        check.due("at first no letter", x.at(0, 0), -1);
        check.due("at first no rule", x.of(0, 0), -1);
        check.due("at first no pile to put to", x.passPile(), -11);
        check.due("at first nothing undone", x.undo(), -4);
        check.due("at first no image", x.restore(), -4);
        for (int sheet = 0; sheet < 4; sheet++) {
            check.due("at first sheet " + sheet, x.drop(sheet), -11);
        }
        check.due("at first an empty tape is a job", x.job(), 0);
        check.due("at first an empty tape is no rule", x.rule(), -20);
        check.due("at first type", x.type('a'), 1);
    }

    // "An object is used for at most 512 calls": the last of them is answered as the first.
    private static void the512thCall() {
        PhraseSwaps x = new PhraseSwaps();
        x.type('a');
        x.job();
        for (int call = 3; call <= 511; call++) {
            check.due("call " + call, x.change(0, call % 2 == 1 ? 'b' : 'a'), call % 2 == 1 ? 'a' : 'b');
        }
        check.due("call 512", x.undo(), 7);
    }

    // Promise 2: "BAD: not 32 .. 126".
    private static void typeBad() {
        PhraseSwaps x = new PhraseSwaps();
        int typed = 0;
        for (int letter = -40; letter <= 300; letter++) {
            boolean well = letter >= 32 && letter <= 126;
            typed += well ? 1 : 0;
            check.due("type(" + letter + ")", x.type(letter), well ? typed : -1);
        }
        for (int letter : new int[] {31, 127, -1, LEAST, MOST, 32 + 256, 'a' + 65536}) {
            twins.refuses("type(" + letter + ") BAD", y -> y.type(letter), -1);
        }
    }

    // Promise 2: "FULL: 150"; BAD is named first.
    private static void typeFull() {
        String text = Check.many("a", 60) + Check.many(";p:ab=xyz", 10);
        PhraseSwaps x = new PhraseSwaps();
        for (int k = 1; k <= 150; k++) {
            check.due("type " + k, x.type(text.charAt(k - 1)), k);
        }
        check.due("type 151", x.type('A'), -3);
        check.due("type 151 again", x.type(' '), -3);
        check.due("type bad when full", x.type(127), -1);
        check.due("type bad when full", x.type(31), -1);
        check.due("the refused ones are not on the tape", x.job(), 10);
        check.due("its line", x.count(0), 60);
        check.dueText("its last rule", Check.spelt(x, 9, 1), "xyz");
        PhraseSwaps y = new PhraseSwaps();
        Check.tell(y, Check.many(" ", 149));
        check.due("the 150th is read", y.type('A'), 150);
        check.due("the 150th is read", y.job(), -169);
        Check.tell(y, Check.many(" ", 150));
        check.due("150 blanks", y.rule(), -170);
        twins.refuses("type FULL", LineBoundTests::fullTape, z -> z.type('z'), -3);
        twins.refuses("type BAD ahead of FULL", LineBoundTests::fullTape, z -> z.type(31), -1);
    }

    private static void fullTape(PhraseSwaps x) {
        Twins.story(x);
        Check.tell(x, "z_" + Check.many(" ", 148));
    }

    // Promises 3 and 4: "THE TAPE, which is empty then", by a FAULT and by FULL too.
    private static void tapeIsEmptyThen() {
        PhraseSwaps x = new PhraseSwaps();
        check.due("job", Check.job(x, "ab" + Check.many(";p:a=", 9)), 9);
        check.due("empty by a job", x.type('A'), 1);
        check.due("fault", x.job(), -20);
        check.due("empty by a fault of a job", x.type('p'), 1);
        Check.tell(x, ":a=");
        check.due("rule", x.rule(), 9);
        check.due("empty by a rule", x.type('q'), 1);
        check.due("fault", x.rule(), -20);
        check.due("empty by a fault of a rule", x.type('p'), 1);
        Check.tell(x, ":a=");
        check.due("full", x.rule(), -3);
        check.due("empty by FULL", x.type(';'), 1);
        check.due("fault", x.job(), -21);
    }

    private static void tapeStaysElse() {
        PhraseSwaps x = Check.of("ab;p:a=c");
        Check.tell(x, "zz");
        x.change(0, 'b');
        x.turn(0);
        x.pass(1);
        x.pile(0);
        x.put(0);
        x.passPile();
        x.undo();
        x.image();
        x.restore();
        x.sheet(0, 0, 4);
        x.film(0, 0, 0, 0);
        x.drop(0);
        check.due("the tape stays", x.type('z'), 3);
        x.job();
        check.dueText("its letters", Check.line(x), "zzz");
    }

    // "THE LINE is 0 to 60 LETTERS"; FAULTS: "a 61st".
    private static void lineOf0To60() {
        for (int n : new int[] {0, 1, 2, 59, 60}) {
            PhraseSwaps x = Check.of("b");
            check.due("job of " + n, Check.job(x, Check.many("a", n)), 0);
            check.due("letters of " + n, x.count(0), n);
            check.due("job of " + n + " and a rule", Check.job(x, Check.many("_", n) + ";p:a="), 1);
            check.due("letters of " + n + " and a rule", x.count(0), n);
        }
        PhraseSwaps x = Check.of("b");
        check.due("job of 61", Check.job(x, Check.many("a", 61)), -80);
        check.due("job of 61 and a rule", Check.job(x, Check.many("a", 61) + ";p:a="), -80);
        check.due("job of 150", Check.job(x, Check.many("a", 150)), -80);
        check.due("line stays", x.count(0), 1);
        PhraseSwaps y = Check.of("b");
        check.due("a 61st behind blanks", Check.job(y, Check.many("a ", 60) + " _"), -141);
        check.due("line stays", y.count(0), 1);
        check.due("60 with blanks", Check.job(y, Check.many(" a", 60) + "  "), 0);
        check.due("60 with blanks", y.count(0), 60);
    }

    // "SOURCE of each its place", 0 .. 59.
    private static void sourceOfEachIsItsPlace() {
        PhraseSwaps x = Check.of(" " + Check.many("ab ", 30));
        for (int place = 0; place < 60; place++) {
            check.due("source of " + place, x.at(place, 1), place);
            check.due("letter of " + place, x.at(place, 0), place % 2 == 0 ? 'a' : 'b');
        }
    }

    // "RULES (10 at most)", "0 to 10 times"; FAULTS: "an 11th RULE's ;".
    private static void rulesOfAJobUpTo10() {
        PhraseSwaps x = new PhraseSwaps();
        for (int rules = 0; rules <= 10; rules++) {
            check.due("job of rules", Check.job(x, Check.many(";p:a=", rules)), rules);
            check.due("rules", x.count(1), rules);
            check.due("all are on", x.count(2), (1 << rules) - 1);
        }
        PhraseSwaps y = Check.of("a;p:b=");
        check.due("11 rules", Check.job(y, Check.many(";p:a=", 11)), -70);
        check.due("an 11th ; alone", Check.job(y, Check.many(";p:a=", 10) + ";"), -70);
        check.due("an 11th ; behind blanks", Check.job(y, Check.many(";p:a=", 10) + "  ;"), -72);
        check.due("an 11th ; behind gifts", Check.job(y, "ab" + Check.many(";p:a=bbbbbb", 10) + ";p"), -132);
        check.due("rules stay", y.count(1), 1);
    }

    // "a PHRASE (1 to 6 LETTERS)"; FAULTS: "a 7th LETTER".
    private static void phraseOf1To6() {
        PhraseSwaps x = new PhraseSwaps();
        for (int n = 1; n <= 6; n++) {
            check.due("phrase of " + n, Check.job(x, ";f:" + Check.many("a", n) + "=b"), 1);
            check.due("its letters", x.of(0, 1), n);
            check.due("phrase of " + n + " with blanks", Check.job(x, ";f: " + Check.many("a ", n) + " =b"), 1);
            check.due("its letters with blanks", x.of(0, 1), n);
        }
        for (int n = 1; n <= 6; n++) {
            check.due("rule of " + n, Check.rule(x, "o:" + Check.many("_", n) + "="), n);
            check.due("its letters", x.of(n, 1), n);
        }
        check.due("phrase of 0", Check.job(x, ";f:=b"), -23);
        check.due("phrase of 7", Check.job(x, ";f:aaaaaaa=b"), -29);
        check.due("phrase of 8", Check.job(x, ";f:aaaaaaaa=b"), -29);
        check.due("a 7th behind blanks", Check.job(x, ";f:aaaaaa  a=b"), -31);
        check.due("rule of 0", Check.rule(x, "f:=b"), -22);
        check.due("rule of 7", Check.rule(x, "f:aaaaaaa=b"), -28);
        check.due("a 7th of a rule behind blanks", Check.rule(x, "f:aaaaaa _="), -29);
        check.due("rules stay", x.count(1), 7);
    }

    // "a GIFT (0 to 6 LETTERS)"; FAULTS: "a 7th LETTER".
    private static void giftOf0To6() {
        PhraseSwaps x = new PhraseSwaps();
        for (int n = 0; n <= 6; n++) {
            check.due("gift of " + n, Check.job(x, ";t:a=" + Check.many("b", n)), 1);
            check.due("its letters", x.of(0, 2), n);
            check.due("gift of " + n + " ahead of a rule", Check.job(x, ";t:a= " + Check.many("b ", n) + ";p:a="), 2);
            check.due("its letters ahead of a rule", x.of(0, 2), n);
        }
        for (int n = 0; n <= 6; n++) {
            check.due("rule with gift of " + n, Check.rule(x, "p:a=" + Check.many("_", n)), n + 2);
            check.due("its letters", x.of(n + 2, 2), n);
        }
        check.due("gift of 7", Check.job(x, ";t:a=bbbbbbb"), -31);
        check.due("gift of 7 ahead of a rule", Check.job(x, ";t:a=bbbbbbb;p:a="), -31);
        check.due("a 7th behind blanks", Check.job(x, ";t:a=bbbbbb   b"), -34);
        check.due("rule with gift of 7", Check.rule(x, "t:a=bbbbbbb"), -30);
        check.due("a 7th of a rule behind blanks", Check.rule(x, "t:a=bbbbbb b"), -31);
        check.due("rules stay", x.count(1), 9);
    }

    private static boolean isLetter(char sign) {
        return sign >= 'a' && sign <= 'z' || sign == '_';
    }

    /** Every sign that can be typed, between two texts: letters, blanks, one sign, and all others answer so. */
    private static void dueOfSigns(String ahead, String behind, int letters, int blank, String one, int ofOne, int others) {
        for (char sign = 32; sign <= 126; sign++) {
            PhraseSwaps x = new PhraseSwaps();
            int due = isLetter(sign) ? letters : sign == ' ' ? blank : one.indexOf(sign) >= 0 ? ofOne : others;
            check.due("job " + ahead + sign + behind, Check.job(x, ahead + sign + behind), due);
        }
    }

    // "LETTERS: a .. z, or _": the first sign that can't stand there, in THE LINE.
    private static void signsOfTheLine() {
        dueOfSigns("", "", 0, 0, ";", -21, -20);
        dueOfSigns("a", "b", 0, 0, ";", -22, -21);
        dueOfSigns(Check.many("a", 59), "", 0, 0, ";", -80, -79);
        dueOfSigns(Check.many("a", 60), "", -80, 0, ";", -81, -80);
    }

    // "p w f t o (PLAIN, WHOLE, FRONT, TURNED, ONCE)".
    private static void signsOfAKind() {
        for (char sign = 33; sign <= 126; sign++) {
            PhraseSwaps x = new PhraseSwaps();
            int kind = "pwfto".indexOf(sign);
            check.due("job of kind " + sign, Check.job(x, "a;" + sign + ":b=c"), kind < 0 ? -22 : 1);
            if (kind >= 0) {
                check.due("kind " + sign, x.of(0, 0), kind);
            }
        }
        for (char sign = 33; sign <= 126; sign++) {
            int kind = "pwfto".indexOf(sign);
            PhraseSwaps y = new PhraseSwaps();
            check.due("rule of kind " + sign, Check.rule(y, sign + ":b=c"), kind < 0 ? -20 : 0);
            check.due("its kind", y.of(0, 0), kind < 0 ? -1 : kind);
        }
        PhraseSwaps z = new PhraseSwaps();
        check.due("no kind", Check.job(z, "a; :b=c"), -23);
        check.due("two kinds", Check.job(z, "a;pw:b=c"), -23);
    }

    private static void signsOfAPhrase() {
        dueOfSigns(";p:", "=", 1, -24, "=", -23, -23);
        dueOfSigns(";p:a", "b=", 1, 1, "=", -26, -24);
        dueOfSigns(";p:abcde", "=", 1, 1, "=", -29, -28);
        dueOfSigns(";p:abcdef", "x", -29, -30, "=", 1, -29);
    }

    private static void signsOfAGift() {
        dueOfSigns(";p:a=", "", 1, 1, ";", -26, -25);
        dueOfSigns(";p:a=b", "c", 1, 1, ";", -27, -26);
        dueOfSigns(";p:a=bbbbb", "", 1, 1, ";", -31, -30);
        dueOfSigns(";p:a=bbbbbb", "", -31, 1, ";", -32, -31);
        dueOfSigns(Check.many(";p:a=", 10), "", 10, 10, ";", -70, -70);
    }

    private static void signsBetween() {
        dueOfSigns(";p", "a=", -22, -23, ":", 1, -22);
        dueOfSigns(";p:a", "", -25, -25, "=", 1, -24);
        PhraseSwaps x = new PhraseSwaps();
        check.due("a rule ends there", Check.rule(x, "p:a=b;"), -25);
        check.due("a rule has no ; ahead", Check.rule(x, ";p:a=b"), -20);
        check.due("a rule has no line ahead", Check.rule(x, "a;p:a=b"), -20);
        check.due("a job begins with no rule", Check.job(x, "p:a=b"), -21);
    }

    // "the place of the first letter (behind blanks)".
    private static void faultIsBehindBlanks() {
        PhraseSwaps x = new PhraseSwaps();
        String[] parts = {"ab", ";", "w", ":", "ab", "=", "cd"};
        StringBuilder text = new StringBuilder();
        for (String part : parts) {
            for (int blanks = 0; blanks <= 3; blanks++) {
                String told = text + Check.many(" ", blanks) + "X" + part;
                check.due("job " + told, Check.job(x, told), -20 - text.length() - blanks);
            }
            text.append(part);
        }
        check.due("the first of two faults", Check.job(x, "aX;Y"), -21);
        check.due("no rule", x.count(1), 0);
    }

    // "the end: how many there are".
    private static void faultAtTheEnd() {
        String text = "ab;w:ab=cd";
        int[] due = {0, 0, 0, -23, -24, -25, -26, -27, 1, 1, 1};
        PhraseSwaps x = new PhraseSwaps();
        for (int end = 0; end <= text.length(); end++) {
            check.due("job to " + end, Check.job(x, text.substring(0, end)), due[end]);
            int behind = due[end] < 0 ? due[end] - 2 : due[end];
            check.due("job to " + end + " and blanks", Check.job(x, text.substring(0, end) + "  "), behind);
        }
        int[] ofRule = {-20, -21, -22, -23, -24, 1, 2, 3};
        for (int end = 0; end <= 7; end++) {
            check.due("rule to " + end, Check.rule(x, text.substring(3, 3 + end)), ofRule[end]);
        }
        check.due("rule of a blank", Check.rule(x, " "), -21);
        check.due("rule cut behind blanks", Check.rule(x, "p : a  "), -27);
    }

    // "blanks count for nothing".
    private static void blanksCountForNothing() {
        twins.alike("a job with blanks", y -> {
            Twins.sheets(y);
            Check.job(y, "ab_;w:ab=cd;o:a=");
        }, y -> {
            Twins.sheets(y);
            Check.job(y, "  a b  _ ;  w : a b = c  d ; o :a= ");
        });
        twins.alike("a rule with blanks", y -> {
            Twins.story(y);
            Check.rule(y, "t:_a=yz");
        }, y -> {
            Twins.story(y);
            Check.rule(y, "   t :  _ a =  y  z  ");
        });
        PhraseSwaps x = Check.of("a b");
        check.due("a blank is no letter of the line", x.count(0), 2);
        check.due("nor has it a source", x.at(1, 1), 1);
    }

    // Promise 3: "A FAULT (all else stays)".
    private static void faultOfAJobKeepsAll() {
        String[] texts = {
            "A", "abc;", "abc;q", "zz;p", "zz;p:", "zz;p:a", "zz;p:aaaaaaa", "zz;p:a=bbbbbbb", "zz;p:a=b;", ";;",
            Check.many("z", 61), "zz" + Check.many(";o:z=", 11), "zz" + Check.many(";o:z=", 10) + "!",
        };
        for (String text : texts) {
            twins.refuses("job " + text, Twins::story, x -> Check.job(x, text) <= -20 ? 1 : 0, 1);
        }
    }

    // "in place of all (there is no PILE then)", "a JOB told .. leave[s] nothing to be UNDONE".
    private static void jobInPlaceOfAll() {
        twins.alike("a job is in place of all", x -> {
            Twins.story(x);
            x.restore();
            x.undo();
            x.turn(1);
            Check.job(x, "z_z;f:z=aa");
        }, x -> {
            Twins.story(x);
            Check.job(x, "z_z;f:z=aa");
        });
        PhraseSwaps x = new PhraseSwaps();
        Twins.story(x);
        check.due("an empty job", x.job(), 0);
        int[] counts = {0, 0, 0, 0, -4, -4, 0};
        for (int what = 0; what < counts.length; what++) {
            check.due("behind a job count " + what, x.count(what), counts[what]);
        }
        check.due("behind a job nothing undone", x.undo(), -4);
        check.due("behind a job no pile", x.passPile(), -11);
        PhraseSwaps y = Check.of("ab;p:a=b");
        y.turn(0);
        check.due("rules of a job are on", Check.job(y, "ab;p:a=b"), 1);
        check.due("rules of a job are on", y.count(2), 1);
    }

    // Promise 4: "A FAULT".
    private static void faultOfARuleKeepsAll() {
        String[] texts = {"", "A", "p", "p:", "p:=", "p:a", "p:aaaaaaa=", "p:a=bbbbbbb", "p:a=b;", "p:a=b=", " x:a=b"};
        for (String text : texts) {
            twins.refuses("rule " + text, Twins::story, x -> Check.rule(x, text) <= -20 ? 1 : 0, 1);
        }
    }

    private static void tenRules(PhraseSwaps x) {
        Check.job(x, "ab" + Check.many(";w:a=b", 10));
        x.turn(9);
        x.image();
        x.change(1, 'z');
        x.pile(1);
        x.put(9);
        Twins.sheets(x);
    }

    // Promise 4: "FULL: 10 (behind a FAULT; THE TAPE is empty then, too)".
    private static void ruleFull() {
        PhraseSwaps x = Check.of("a" + Check.many(";p:b=", 9));
        check.due("a 10th rule", Check.rule(x, "p:a=c"), 9);
        check.due("a 10th rule is used", x.used(0), 9);
        twins.refuses("an 11th rule", LineBoundTests::tenRules, y -> Check.rule(y, "p:a=c"), -3);
        twins.refuses("a FAULT ahead of FULL", LineBoundTests::tenRules, y -> Check.rule(y, "p:a=c;"), -25);
        twins.refuses("the end ahead of FULL", LineBoundTests::tenRules, y -> Check.rule(y, "p:"), -22);
        twins.refuses("an empty tape ahead of FULL", LineBoundTests::tenRules, y -> y.rule(), -20);
    }

    // "are ON (at first)", whatever was OFF before.
    private static void newRuleIsOn() {
        PhraseSwaps x = Check.of("a;p:a=b");
        x.turn(0);
        check.due("new rule", Check.rule(x, "p:a=c"), 1);
        check.due("the new one is on, the old one off", x.count(2), 2);
        check.due("on", x.of(1, 3), 1);
        check.due("off", x.of(0, 3), 0);
        x.image();
        x.turn(1);
        Check.job(x, "a;p:a=b");
        check.due("on anew", x.count(2), 1);
    }

    // "a new RULE leave[s] nothing to be UNDONE"; THE LINE, the PILE, other RULES are as they were.
    private static void newRuleKeepsTheRest() {
        PhraseSwaps x = new PhraseSwaps();
        Twins.story(x);
        String line = Check.line(x);
        String sources = Check.sources(x);
        check.due("undo ahead of it", x.count(6), 3);
        check.due("new rule", Check.rule(x, "p:zzzzzz=zzzzzz"), 3);
        check.dueText("line stays", Check.line(x), line);
        check.dueText("sources stay", Check.sources(x), sources);
        check.due("on", x.count(2), 8 + 3);
        check.due("the pile stays", x.count(4), 3);
        check.due("its class stays", x.count(5), 0);
        check.due("nothing known", x.count(6), 0);
        check.due("nothing undone", x.undo(), -4);
        check.dueText("other phrases stay", Check.spelt(x, 0, 0), "ab");
        check.due("the image stays", x.restore(), 1);
        check.due("rules of the image", x.count(1), 3);
    }

    // RULES "as they come": what was looked for ahead of a new one, or of a JOB, is asked anew behind it.
    private static void newRulesAreOfTheNextPass() {
        PhraseSwaps x = Check.of("abc;p:a=x");
        check.due("used", x.used(0), 0);
        check.due("a longer one", Check.rule(x, "p:ab=y"), 1);
        check.due("is used", x.used(0), 1);
        check.due("a shorter one", Check.rule(x, "p:a=z"), 2);
        check.due("is not", x.used(0), 1);
        check.due("a whole one", Check.rule(x, "w:abc="), 3);
        check.due("is used", x.used(0), 3);
        check.due("a job with rules in another order", Check.job(x, "abc;w:abc=;p:ab=y"), 2);
        check.due("the longest", x.used(0), 0);
        check.due("a job with fewer rules", Check.job(x, "abc;p:b=y"), 1);
        check.due("none", x.used(0), -4);
        check.due("the one there is", x.used(1), 0);
    }

    // Promise 5: "0 KIND, .. 4 USES. BAD."
    private static void ofBounds() {
        int[] what = {LEAST, -1, 5, MOST};
        for (int one : what) {
            twins.refuses("of(0, " + one + ")", x -> x.of(0, one), -1);
        }
        for (int rule : new int[] {LEAST, -1, 3, 10, 32, MOST}) {
            for (int one = 0; one <= 4; one++) {
                int asked = one;
                twins.refuses("of(" + rule + ", " + one + ")", x -> x.of(rule, asked), -1);
            }
        }
        PhraseSwaps x = Check.of(Check.many("a", 60) + Check.many(";p:b=c", 9) + ";o:aaaaaa=bb");
        check.due("rule 10 of 10", x.of(10, 0), -1);
        check.due("rule 9 of 10: kind", x.of(9, 0), 4);
        check.due("rule 9 of 10: phrase", x.of(9, 1), 6);
        check.due("rule 9 of 10: gift", x.of(9, 2), 2);
        check.due("rule 9 of 10: on", x.of(9, 3), 1);
        check.due("rule 9 of 10: uses", x.of(9, 4), 1);
        PhraseSwaps y = Check.of(Check.many("a", 60) + ";p:a=bb");
        check.due("60 uses", y.of(0, 4), 60);
        check.due("no uses of an off one", y.turn(0) + y.of(0, 4), 0);
    }

    // Promise 6: "place k (0 .. 5)", "NONE: it has not so many. BAD."
    private static void speltBounds() {
        for (int what : new int[] {LEAST, -1, 2, MOST}) {
            twins.refuses("spelt what " + what, x -> x.spelt(0, what, 0), -1);
        }
        for (int k : new int[] {LEAST, -1, 6, MOST}) {
            twins.refuses("spelt phrase at " + k, x -> x.spelt(0, 0, k), -1);
            twins.refuses("spelt gift at " + k, x -> x.spelt(0, 1, k), -1);
        }
        for (int rule : new int[] {LEAST, -1, 3, 10, MOST}) {
            twins.refuses("spelt rule " + rule, x -> x.spelt(rule, 0, 0), -1);
            twins.refuses("spelt rule " + rule + " ahead of NONE", x -> x.spelt(rule, 1, 5), -1);
        }
        for (int n = 0; n <= 6; n++) {
            PhraseSwaps x = Check.of(";t:" + "abcdef".substring(0, Math.max(1, n)) + "=" + "uvwxyz".substring(0, n));
            for (int k = 0; k < 6; k++) {
                check.due("phrase of " + n + " at " + k, x.spelt(0, 0, k), k < Math.max(1, n) ? 'a' + k : -4);
                check.due("turned gift of " + n + " at " + k, x.spelt(0, 1, k), k < n ? 'u' + n - 1 - k : -4);
            }
            PhraseSwaps y = Check.of(";w:a=" + "uvwxyz".substring(0, n));
            for (int k = 0; k < 6; k++) {
                check.due("gift of " + n + " at " + k, y.spelt(0, 1, k), k < n ? 'u' + k : -4);
            }
        }
    }

    // Promise 7: "at a place (what 0), its SOURCE (1). BAD."
    private static void atBounds() {
        for (int what : new int[] {LEAST, -1, 2, MOST}) {
            twins.refuses("at what " + what, x -> x.at(0, what), -1);
        }
        for (int place : new int[] {LEAST, -1, 5, 60, MOST}) {
            twins.refuses("at " + place, x -> x.at(place, 0), -1);
            twins.refuses("source at " + place, x -> x.at(place, 1), -1);
        }
        PhraseSwaps x = Check.of("a" + Check.many("b", 58) + "_");
        check.due("first", x.at(0, 0), 'a');
        check.due("last", x.at(59, 0), '_');
        check.due("last source", x.at(59, 1), 59);
        check.due("behind 60", x.at(60, 0), -1);
        check.due("of an empty line", new PhraseSwaps().at(0, 1), -1);
        PhraseSwaps y = Check.of("ab;p:b=");
        y.pass(1);
        check.due("what was there", y.at(1, 0), -1);
        check.due("what is there", y.at(0, 0), 'a');
    }

    // Promise 8: "0 LETTERS .. 6 what may be UNDONE. BAD."
    private static void countBounds() {
        for (int what : new int[] {LEAST, -1, 7, MOST}) {
            twins.refuses("count " + what, x -> x.count(what), -1);
        }
        PhraseSwaps x = Check.of(Check.many("a", 60) + Check.many(";p:b=", 10));
        x.pile(2);
        int[] counts = {60, 10, 1023, 1023, 0, 2, 0};
        for (int what = 0; what < counts.length; what++) {
            check.due("count " + what, x.count(what), counts[what]);
        }
        x.pile(0);
        for (int rule = 6; rule < 10; rule++) {
            x.put(rule);
            x.turn(rule);
        }
        check.due("four on the pile", x.count(4), 960);
        check.due("class 0 is no NONE", x.count(5), 0);
        check.due("six on", x.count(2), 63);
        check.due("six idle", x.count(3), 63);
        check.due("four to undo", x.count(6), 4);
    }

    // "IDLE: RULES that are ON, but not used (a set)".
    private static void idleIsOnButNotUsed() {
        PhraseSwaps x = Check.of("aab;p:a=;p:aa=;p:b=;p:c=");
        check.due("idle", x.count(3), 1 + 8);
        x.turn(3);
        check.due("an off one is not idle", x.count(3), 1);
        x.turn(1);
        check.due("none idle", x.count(3), 0);
        check.due("uses", x.of(0, 4), 2);
    }
}
