/** Promises 25 to 30: sheets, and what is told by them. */
public final class SheetTests {
    private static final Check check = new Check();

    public static void main(String[] args) {
        sheetsMade();
        sheetsDropped();
        items();
        copies();
        overlappingCopies();
        films();
        cameOf();
        cameRefused();
        check.finish("SheetTests");
    }

    private static void sheetsMade() {
        PhraseSwaps x = Check.of("a;p:b=");
        check.due("sheet 4", x.sheet(4, 0, 1), -1);
        check.due("sheet -1", x.sheet(-1, 0, 1), -1);
        check.due("lane 4", x.sheet(0, 4, 1), -1);
        check.due("lane -1", x.sheet(0, -1, 1), -1);
        check.due("61", x.sheet(0, 0, 61), -1);
        check.due("-1", x.sheet(0, 0, -1), -14);
        check.due("least", x.sheet(0, 0, Integer.MIN_VALUE), -14);
        check.due("bad ahead of size", x.sheet(4, 0, -1), -1);
        check.due("refused makes none", x.drop(0), -11);
        check.due("0", x.sheet(0, 0, 0), 0);
        check.due("60", x.sheet(3, 3, 60), 60);
        check.due("refused keeps it", x.sheet(3, 3, -1), -14);
        check.due("60 still", x.drop(3), 60);
        Check.write(x, 1, 2, 3, "abc");
        check.due("anew", x.sheet(1, 2, 3), 3);
        check.due("a new row is of noughts", x.came(0, 1, 2, 0, 1), 0);
        check.due("another lane", x.sheet(1, 0, 2), 2);
        check.due("the old lane", x.item(1, 2, 0, 1), -12);
    }

    private static void sheetsDropped() {
        PhraseSwaps x = new PhraseSwaps();
        check.due("none", x.drop(2), -11);
        x.sheet(2, 1, 9);
        check.due("had 9", x.drop(2), 9);
        check.due("none then", x.drop(2), -11);
        check.due("sheet 4", x.drop(4), -1);
        check.due("sheet -1", x.drop(-1), -1);
        check.due("no item", x.item(2, 1, 0, 0), -11);
    }

    /** Whether an item is the letter a, asked of it as a row. */
    private static void dueLetter(String call, PhraseSwaps x, int sheet, int lane, int i, boolean want) {
        check.due(call, x.came(0, sheet, lane, i, 1), want ? 31 : 0);
    }

    private static void items() {
        PhraseSwaps x = Check.of("a;p:b=");
        for (int lane = 0; lane < 4; lane++) {
            x.sheet(lane, lane, 3);
            check.due("item", x.item(lane, lane, 1, 'a'), 1);
            dueLetter("a in lane " + lane, x, lane, lane, 1, true);
            dueLetter("nought in lane " + lane, x, lane, lane, 0, false);
            check.due("256 more", x.item(lane, lane, 1, 'a' + 256L), 1);
            dueLetter("256 more in lane " + lane, x, lane, lane, 1, lane == 0);
            x.item(lane, lane, 1, 'a' + (1L << 16));
            dueLetter("2^16 more in lane " + lane, x, lane, lane, 1, lane <= 1);
            x.item(lane, lane, 1, 'a' - (1L << 32));
            dueLetter("2^32 less in lane " + lane, x, lane, lane, 1, lane <= 2);
            check.due("other lane", x.item(lane, (lane + 1) % 4, 1, 0), -12);
            check.due("item 3", x.item(lane, lane, 3, 0), -13);
            check.due("item -1", x.item(lane, lane, -1, 0), -13);
            check.due("item far", x.item(lane, lane, Integer.MAX_VALUE, 0), -13);
            check.due("cast ahead of index", x.item(lane, (lane + 1) % 4, 9, 0), -12);
        }
        check.due("sheet 4", x.item(4, 0, 0, 0), -1);
        check.due("lane 4", x.item(0, 4, 0, 0), -1);
        check.due("lane -1", x.item(0, -1, 0, 0), -1);
        x.drop(0);
        check.due("nothing ahead of all but bad", x.item(0, 3, 99, 0), -11);
        check.due("bad ahead of nothing", x.item(0, 4, 99, 0), -1);
    }

    /** The rows of an object whose line is the text due stand in the sheet, if came says so. */
    private static void dueRow(String call, PhraseSwaps x, int sheet, int lane, String want) {
        Check.job(x, want + ";p:zzzzzz=");
        check.due(call, x.came(0, sheet, lane, 0, want.length()), 31);
    }

    private static void copies() {
        PhraseSwaps x = new PhraseSwaps();
        check.due("none", x.copy(0, 0, 1, 0, 0), -11);
        Check.write(x, 0, 1, 4, "abcd");
        check.due("no target", x.copy(0, 0, 1, 0, 0), -11);
        check.due("no source", x.copy(1, 0, 0, 0, 0), -11);
        Check.write(x, 1, 1, 6, "uvwxyz");
        Check.write(x, 2, 2, 6, "uvwxyz");
        check.due("unlike lanes", x.copy(0, 0, 2, 0, 1), -12);
        check.due("unlike lanes ahead of index", x.copy(0, 9, 2, 0, 1), -12);
        check.due("sheet 4", x.copy(4, 0, 1, 0, 0), -1);
        check.due("sheet -1", x.copy(-1, 0, 1, 0, 0), -1);
        check.due("to 4", x.copy(0, 0, 4, 0, 0), -1);
        check.due("to -1", x.copy(0, 0, -1, 0, 0), -1);
        check.due("bad ahead of nothing", x.copy(3, 0, 4, 0, 0), -1);
        check.due("5 of 4", x.copy(0, 0, 1, 0, 5), -13);
        check.due("behind the end", x.copy(0, 2, 1, 0, 3), -13);
        check.due("behind the target's", x.copy(0, 0, 1, 4, 3), -13);
        check.due("from -1", x.copy(0, -1, 1, 0, 1), -13);
        check.due("at -1", x.copy(0, 0, 1, -1, 1), -13);
        check.due("-1 items", x.copy(0, 1, 1, 1, -1), -13);
        check.due("far", x.copy(0, Integer.MAX_VALUE, 1, 0, 4), -13);
        check.due("far target", x.copy(0, 0, 1, Integer.MAX_VALUE, 4), -13);
        check.due("none at the end", x.copy(0, 4, 1, 6, 0), 0);
        check.due("none behind the end", x.copy(0, 5, 1, 0, 0), -13);
        dueRow("refused changes nothing", x, 1, 1, "uvwxyz");
        check.due("three", x.copy(0, 1, 1, 2, 3), 3);
        dueRow("copied", x, 1, 1, "uvbcdz");
        dueRow("source stays", x, 0, 1, "abcd");
    }

    private static void overlappingCopies() {
        for (int lane = 0; lane < 4; lane++) {
            PhraseSwaps x = new PhraseSwaps();
            Check.write(x, 0, lane, 6, "abcdef");
            check.due("forth", x.copy(0, 0, 0, 2, 4), 4);
            dueRow("forth in lane " + lane, x, 0, lane, "ababcd");
            check.due("back", x.copy(0, 1, 0, 0, 5), 5);
            dueRow("back in lane " + lane, x, 0, lane, "babcdd");
        }
    }

    private static void films() {
        PhraseSwaps x = Check.of("abc;p:b=xy");
        check.due("what 2", x.film(2, 0, 0, 0), -1);
        check.due("what -1", x.film(-1, 0, 0, 0), -1);
        check.due("sheet 4", x.film(0, 4, 0, 0), -1);
        check.due("lane 4", x.film(0, 0, 4, 0), -1);
        check.due("none", x.film(0, 0, 0, 0), -11);
        x.sheet(0, 0, 3);
        check.due("another lane", x.film(0, 0, 1, 0), -12);
        check.due("no room", x.film(0, 0, 0, 0), -13);
        check.due("cast ahead of index", x.film(0, 0, 3, 99), -12);
        Check.write(x, 1, 3, 6, "zzzzzz");
        check.due("at 3", x.film(0, 1, 3, 3), -13);
        check.due("at -1", x.film(0, 1, 3, -1), -13);
        check.due("far", x.film(0, 1, 3, Integer.MAX_VALUE), -13);
        check.due("at 2", x.film(0, 1, 3, 2), 4);
        dueRow("filmed", x, 1, 3, "zzaxyc");
        PhraseSwaps y = Check.of("cab;p:a=xyz");
        y.sheet(0, 2, 5);
        check.due("letters", y.film(0, 0, 2, 0), 5);
        check.due("letters came", y.came(0, 0, 2, 0, 5), 1);
        // No call shows a source in a sheet; but that it came in the place of a letter shows.
        check.due("sources", y.film(1, 0, 2, 0), 5);
        check.due("no letters", y.came(0, 0, 2, 0, 5), 0);
        PhraseSwaps z = Check.of(Check.many("a", 11) + ";p:a=bbbbbb");
        z.sheet(0, 0, 60);
        check.due("more than 60", z.film(0, 0, 0, 0), -13);
        PhraseSwaps w = Check.of("a;p:a=");
        w.sheet(0, 0, 0);
        check.due("nothing comes", w.film(0, 0, 0, 0), 0);
        check.due("nothing comes, too far", w.film(0, 0, 0, 1), -13);
    }

    private static void dueCame(String text, int rule, String row, int want) {
        PhraseSwaps x = Check.of(text);
        Check.write(x, 2, 1, row.length() + 3, "__" + row);
        check.due("came of " + rule + " in " + text + " by " + row, x.came(rule, 2, 1, 2, row.length()), want);
    }

    private static void cameOf() {
        // Bits: 1 plain, 2 whole, 4 front, 8 turned, 16 once.
        dueCame("ab_abc_cab_ab;p:ab=xy", 0, "xy_xyc_cxy_xy", 1);
        dueCame("ab_abc_cab_ab;p:ab=xy", 0, "xy_abc_cab_xy", 2);
        dueCame("ab_abc_cab_ab;p:ab=xy", 0, "xy_xyc_cab_xy", 4);
        dueCame("ab_abc_cab_ab;p:ab=xy", 0, "yx_abc_cab_yx", 8);
        dueCame("ab_abc_cab_ab;p:ab=xy", 0, "xy_abc_cab_ab", 16);
        dueCame("ab_abc_cab_ab;p:ab=xy", 0, "xy_abc_cab_ac", 0);
        dueCame("ab;t:ab=xx", 0, "xx", 31);
        dueCame("ab;t:ab=xy", 0, "xy", 23);
        dueCame("cd;t:ab=xy", 0, "cd", 31);
        dueCame("cd;t:ab=xy", 0, "c", 0);
        dueCame("c;t:ab=xy", 0, "cd", 0);
        dueCame(";t:ab=xy", 0, "", 31);
        dueCame("ab;o:ab=", 0, "", 31);
        dueCame("abc;p:ab=x;p:abc=y", 0, "y", 31);
        dueCame("abc;p:ab=x;w:abc=y", 1, "y", 31);
        dueCame("abcd;p:ab=x;w:abc=y", 1, "xcd", 10);
        dueCame("abcd;p:ab=x;w:abc=y", 1, "yd", 21);
        PhraseSwaps x = Check.of("ab;t:ab=xy");
        x.turn(0);
        Check.write(x, 0, 3, 2, "ab");
        check.due("an off one", x.came(0, 0, 3, 0, 2), 31);
        check.due("its kind stays", x.of(0, 0), 3);
        check.due("a part", x.came(0, 0, 3, 0, 1), 0);
    }

    private static void cameRefused() {
        PhraseSwaps x = Check.of("ab;p:ab=xy");
        check.due("rule 1", x.came(1, 0, 0, 0, 0), -1);
        check.due("rule -1", x.came(-1, 0, 0, 0, 0), -1);
        check.due("sheet 4", x.came(0, 4, 0, 0, 0), -1);
        check.due("lane 4", x.came(0, 0, 4, 0, 0), -1);
        check.due("61 items", x.came(0, 0, 0, 0, 61), -1);
        check.due("-1 items", x.came(0, 0, 0, 0, -1), -1);
        check.due("none", x.came(0, 0, 0, 0, 60), -11);
        x.sheet(0, 1, 4);
        check.due("another lane", x.came(0, 0, 0, 9, 2), -12);
        check.due("from 3", x.came(0, 0, 1, 3, 2), -13);
        check.due("from -1", x.came(0, 0, 1, -1, 2), -13);
        check.due("far", x.came(0, 0, 1, Integer.MAX_VALUE, 2), -13);
        check.due("none behind the end", x.came(0, 0, 1, 5, 0), -13);
        check.due("none at the end", x.came(0, 0, 1, 4, 0), 0);
        check.due("all", x.came(0, 0, 1, 0, 4), 0);
    }
}
