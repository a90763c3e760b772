import java.util.function.ToLongFunction;

/** The boundary cases of promises 25 to 30: CAME, FILM, and SHEETS, with the order of their refusals. */
public final class SheetBoundTests {
    private static final Check check = new Check();
    private static final Twins twins = new Twins(check);
    private static final int LEAST = Integer.MIN_VALUE;
    private static final int MOST = Integer.MAX_VALUE;
    private static final int[] NO_SHEETS = {LEAST, -1, 4, MOST};
    private static final int[] NO_LANES = {LEAST, -1, 4, MOST};

    public static void main(String[] args) {
        sheetBad();
        sheetSize();
        sheetOf0To60();
        sheetIsNew();
        dropBounds();
        itemBad();
        itemNullCastIndex();
        itemFirstAndLast();
        itemLowestBits();
        copyBad();
        copyNull();
        copyCast();
        copyIndex();
        copyOf0To60();
        copyAsIfTakenAhead();
        filmBad();
        filmNullCastIndex();
        filmFits();
        filmOf0To60();
        filmOfTooMany();
        filmOfSources();
        cameBad();
        cameNullCastIndex();
        cameOfAllOfIt();
        cameOfLetters();
        cameOf0And60();
        cameOfKinds();
        cameOfTooMany();
        check.finish("SheetBoundTests");
    }

    /** After Twins' story SHEET 0 is of 3 bytes, 1 of 4 shorts, 2 of 0 longs, 3 is missing. */
    private static void refuses(String name, ToLongFunction<PhraseSwaps> call, long due) {
        twins.refuses(name, call, due);
    }

    /** Whether the SHEET holds these letters, and no more items. The object has another JOB then. */
    private static void dueRow(String name, PhraseSwaps x, int sheet, int lane, String want) {
        check.due(name + ": a job", Check.job(x, want + ";p:aaaaaa="), 1);
        x.turn(0);
        check.due(name + ": its letters", x.came(0, sheet, lane, 0, want.length()), 31);
        check.due(name + ": no more items", x.item(sheet, lane, want.length(), 0), -13);
    }

    // Promise 27: "BAD: also n above 60"; BAD is named ahead of SIZE.
    private static void sheetBad() {
        for (int sheet : NO_SHEETS) {
            refuses("sheet(" + sheet + ", 0, 1)", x -> x.sheet(sheet, 0, 1), -1);
            refuses("sheet(" + sheet + ", 0, -1)", x -> x.sheet(sheet, 0, -1), -1);
        }
        for (int lane : NO_LANES) {
            refuses("sheet(0, " + lane + ", 1)", x -> x.sheet(0, lane, 1), -1);
            refuses("sheet(0, " + lane + ", -1)", x -> x.sheet(0, lane, -1), -1);
        }
        for (int n : new int[] {61, 62, 256, MOST}) {
            for (int sheet = 0; sheet < 4; sheet++) {
                int one = sheet;
                refuses("sheet(" + sheet + ", 0, " + n + ")", x -> x.sheet(one, 0, n), -1);
            }
        }
    }

    // "SIZE: n below 0".
    private static void sheetSize() {
        for (int n : new int[] {-1, -2, -60, LEAST}) {
            for (int sheet = 0; sheet < 4; sheet++) {
                int one = sheet;
                refuses("sheet(" + sheet + ", 1, " + n + ")", x -> x.sheet(one, 1, n), -14);
            }
        }
    }

    // "sheets 0 .. 3", "0 bytes, 1 shorts, 2 ints, 3 longs, of 0 to 60 items".
    private static void sheetOf0To60() {
        for (int sheet = 0; sheet < 4; sheet++) {
            for (int lane = 0; lane < 4; lane++) {
                for (int n : new int[] {0, 1, 59, 60}) {
                    PhraseSwaps x = new PhraseSwaps();
                    check.due("sheet", x.sheet(sheet, lane, n), n);
                    check.due("item ahead of it", x.item(sheet, lane, -1, 0), -13);
                    check.due("its first item", x.item(sheet, lane, 0, 0), n > 0 ? 1 : -13);
                    check.due("its last item", x.item(sheet, lane, n - 1, 0), n > 0 ? 1 : -13);
                    check.due("item behind it", x.item(sheet, lane, n, 0), -13);
                    for (int other = 0; other < 4; other++) {
                        check.due("lane " + other, x.item(sheet, other, -1, 0), other == lane ? -13 : -12);
                        check.due("sheet " + other, x.item(other, lane, -1, 0), other == sheet ? -13 : -11);
                    }
                    check.due("it had", x.drop(sheet), n);
                }
            }
        }
    }

    // "A SHEET holds a new row": of noughts, of this length and LANE alone.
    private static void sheetIsNew() {
        PhraseSwaps x = Check.of("b;p:a=");
        Check.write(x, 0, 2, 3, "bbb");
        check.due("an item", x.came(0, 0, 2, 1, 1), 31);
        check.due("anew, as long", x.sheet(0, 2, 3), 3);
        for (int i = 0; i < 3; i++) {
            check.due("no letter any more", x.came(0, 0, 2, i, 1), 0);
        }
        Check.write(x, 0, 2, 3, "bbb");
        check.due("anew, shorter", x.sheet(0, 2, 1), 1);
        check.due("anew, longer", x.sheet(0, 2, 3), 3);
        check.due("no letter behind it", x.came(0, 0, 2, 2, 1), 0);
        Check.write(x, 0, 2, 3, "bbb");
        x.drop(0);
        check.due("anew behind a drop", x.sheet(0, 2, 3), 3);
        check.due("no letter behind a drop", x.came(0, 0, 2, 0, 1), 0);
        check.due("another lane", x.sheet(0, 3, 0), 0);
        check.due("the old lane", x.item(0, 2, 0, 0), -12);
    }

    // Promise 28: "how many items it had. BAD; NULL."
    private static void dropBounds() {
        for (int sheet : NO_SHEETS) {
            refuses("drop(" + sheet + ")", x -> x.drop(sheet), -1);
        }
        refuses("drop of a missing one", x -> x.drop(3), -11);
        PhraseSwaps x = new PhraseSwaps();
        Twins.sheets(x);
        int[] had = {3, 4, 0};
        for (int sheet = 0; sheet < 3; sheet++) {
            check.due("drop " + sheet, x.drop(sheet), had[sheet]);
            check.due("drop " + sheet + " again", x.drop(sheet), -11);
            check.due("no item", x.item(sheet, 0, 0, 0), -11);
        }
    }

    // Promise 29: "BAD", ahead of all others.
    private static void itemBad() {
        for (int sheet : NO_SHEETS) {
            refuses("item of sheet " + sheet, x -> x.item(sheet, 0, 0, 'z'), -1);
            refuses("item of sheet " + sheet + " and lane 4", x -> x.item(sheet, 4, 9, 'z'), -1);
        }
        for (int lane : NO_LANES) {
            refuses("item of lane " + lane, x -> x.item(0, lane, 0, 'z'), -1);
            refuses("item of lane " + lane + " ahead of INDEX", x -> x.item(0, lane, 3, 'z'), -1);
            refuses("item of lane " + lane + " ahead of NULL", x -> x.item(3, lane, 0, 'z'), -1);
        }
    }

    // "NULL; CAST; INDEX", in this order.
    private static void itemNullCastIndex() {
        for (int lane = 0; lane < 4; lane++) {
            int one = lane;
            refuses("item NULL ahead of CAST and INDEX", x -> x.item(3, one, -1, 'z'), -11);
            refuses("item CAST", x -> x.item(0, one, 0, 'z'), one == 0 ? 1 : -12, one == 0);
            refuses("item CAST ahead of INDEX", x -> x.item(1, one, 4, 'z'), one == 1 ? -13 : -12);
            refuses("item CAST ahead of INDEX of none", x -> x.item(2, one, 0, 'z'), one == 3 ? -13 : -12);
        }
        for (int i : new int[] {LEAST, -1, 3, 4, 60, 61, MOST}) {
            refuses("item INDEX " + i, x -> x.item(0, 0, i, 'z'), -13);
        }
    }

    /** As refuses; but where the call is well nothing is held against its twin. */
    private static void refuses(String name, ToLongFunction<PhraseSwaps> call, long due, boolean well) {
        if (well) {
            PhraseSwaps x = new PhraseSwaps();
            Twins.storyWithTape(x);
            check.due(name, call.applyAsLong(x), due);
        } else {
            refuses(name, call, due);
        }
    }

    private static void itemFirstAndLast() {
        for (int lane = 0; lane < 4; lane++) {
            PhraseSwaps x = new PhraseSwaps();
            Check.write(x, 1, lane, 60, Check.many("b", 60));
            check.due("first", x.item(1, lane, 0, 'a'), 1);
            check.due("last", x.item(1, lane, 59, 'c'), 1);
            check.due("behind", x.item(1, lane, 60, 'd'), -13);
            dueRow("lane " + lane, x, 1, lane, "a" + Check.many("b", 58) + "c");
        }
    }

    // "becomes v, its lowest bits".
    private static void itemLowestBits() {
        int[] bits = {8, 16, 32, 64};
        for (int lane = 0; lane < 4; lane++) {
            PhraseSwaps x = Check.of("a;p:b=");
            x.sheet(0, lane, 1);
            for (int bit = 7; bit < 64; bit++) {
                boolean kept = bit < bits[lane];
                check.due("2^" + bit + " more", x.item(0, lane, 0, 'a' + (1L << bit)), 1);
                check.due("2^" + bit + " more in lane " + lane, x.came(0, 0, lane, 0, 1), kept ? 0 : 31);
                x.item(0, lane, 0, 'a' - (1L << bit));
                check.due("2^" + bit + " less in lane " + lane, x.came(0, 0, lane, 0, 1), kept ? 0 : 31);
            }
            for (long v : new long[] {0, -1, Long.MIN_VALUE, Long.MAX_VALUE, -'a', 'a' - 128}) {
                check.due("item " + v, x.item(0, lane, 0, v), 1);
                check.due("item " + v + " in lane " + lane, x.came(0, 0, lane, 0, 1), 0);
            }
            x.item(0, lane, 0, 'a');
            check.due("a in lane " + lane, x.came(0, 0, lane, 0, 1), 31);
        }
    }

    // Promise 30: "BAD", ahead of all others.
    private static void copyBad() {
        for (int sheet : NO_SHEETS) {
            refuses("copy from " + sheet, x -> x.copy(sheet, 0, 0, 0, 1), -1);
            refuses("copy to " + sheet, x -> x.copy(0, 0, sheet, 0, 1), -1);
            refuses("copy from a missing one to " + sheet, x -> x.copy(3, 0, sheet, 0, 1), -1);
            refuses("copy from " + sheet + " to a missing one", x -> x.copy(sheet, -1, 3, -1, -1), -1);
        }
    }

    // "NULL (either)", ahead of CAST and INDEX.
    private static void copyNull() {
        refuses("copy from a missing one", x -> x.copy(3, 0, 0, 0, 1), -11);
        refuses("copy to a missing one", x -> x.copy(0, 0, 3, 0, 1), -11);
        refuses("copy of a missing one", x -> x.copy(3, 0, 3, 0, 0), -11);
        refuses("copy from a missing one ahead of INDEX", x -> x.copy(3, -1, 2, 9, 99), -11);
        refuses("copy to a missing one ahead of INDEX", x -> x.copy(1, 9, 3, -1, -1), -11);
    }

    // "CAST: of unlike LANES", ahead of INDEX.
    private static void copyCast() {
        for (int from = 0; from < 3; from++) {
            for (int to = 0; to < 3; to++) {
                int one = from;
                int other = to;
                int due = from == to ? -13 : -12;
                refuses("copy from " + from + " to " + to, x -> x.copy(one, 9, other, 0, 1), due);
                refuses("copy of none from " + from + " to " + to, x -> x.copy(one, 0, other, 0, 0), from == to ? 0 : -12);
            }
        }
        for (int from = 0; from < 4; from++) {
            for (int to = 0; to < 4; to++) {
                PhraseSwaps x = new PhraseSwaps();
                x.sheet(0, from, 1);
                x.sheet(1, to, 1);
                check.due("copy of lane " + from + " to " + to, x.copy(0, 0, 1, 0, 1), from == to ? 1 : -12);
            }
        }
    }

    private static void twoOfShorts(PhraseSwaps x) {
        Twins.storyWithTape(x);
        Check.write(x, 3, 1, 2, "ab");
    }

    // "INDEX": i, j, n ahead of, or behind, either row.
    private static void copyIndex() {
        int[][] outside = {
            {-1, 0, 1}, {0, -1, 1}, {2, 0, 1}, {0, 4, 1}, {1, 0, 2}, {0, 3, 2}, {0, 0, 3}, {0, 0, 5}, {0, 0, 61}, {0, 0, -1},
            {1, 1, -1}, {LEAST, 0, 1}, {0, LEAST, 1}, {0, 0, LEAST}, {MOST, 0, 1}, {0, MOST, 1}, {0, 0, MOST}, {1, 1, MOST},
            {MOST, MOST, MOST}, {2, 0, MOST}, {-1, 0, 0}, {0, -1, 0}, {3, 0, 0}, {0, 5, 0}, {-1, 0, 2}, {2, 0, -2}, {2, 4, -1},
        };
        for (int[] one : outside) {
            twins.refuses("copy from " + one[0] + " to " + one[1] + " of " + one[2], SheetBoundTests::twoOfShorts,
                x -> x.copy(3, one[0], 1, one[1], one[2]), -13);
            twins.refuses("copy to " + one[0] + " from " + one[1] + " of " + one[2], SheetBoundTests::twoOfShorts,
                x -> x.copy(1, one[1], 3, one[0], one[2]), -13);
        }
    }

    private static void copyOf0To60() {
        PhraseSwaps x = new PhraseSwaps();
        Check.write(x, 0, 0, 60, Check.many("abcdef", 10));
        Check.write(x, 1, 0, 60, Check.many("z", 60));
        check.due("none at the ends", x.copy(0, 60, 1, 60, 0), 0);
        check.due("61", x.copy(0, 0, 1, 0, 61), -13);
        check.due("60 from 1", x.copy(0, 1, 1, 0, 60), -13);
        check.due("60 to 1", x.copy(0, 0, 1, 1, 60), -13);
        check.due("the last to the first", x.copy(0, 59, 1, 0, 1), 1);
        check.due("the first to the last", x.copy(0, 0, 1, 59, 1), 1);
        dueRow("both ends", x, 1, 0, "f" + Check.many("z", 58) + "a");
        check.due("60", x.copy(0, 0, 1, 0, 60), 60);
        dueRow("all", x, 1, 0, Check.many("abcdef", 10));
        PhraseSwaps y = new PhraseSwaps();
        y.sheet(0, 3, 0);
        check.due("none of none", y.copy(0, 0, 0, 0, 0), 0);
        check.due("one of none", y.copy(0, 0, 0, 0, 1), -13);
    }

    // "to another one (or the same) from j on, as if all were taken ahead".
    private static void copyAsIfTakenAhead() {
        for (int lane = 0; lane < 4; lane++) {
            for (int i = 0; i <= 5; i++) {
                for (int j = 0; j <= 5; j++) {
                    int n = 6 - Math.max(i, j);
                    PhraseSwaps x = new PhraseSwaps();
                    Check.write(x, 2, lane, 6, "abcdef");
                    check.due("copy within", x.copy(2, i, 2, j, n), n);
                    String want = "abcdef".substring(0, j) + "abcdef".substring(i, i + n) + "abcdef".substring(j + n);
                    dueRow("copy within from " + i + " to " + j, x, 2, lane, want);
                }
            }
        }
    }

    // Promise 26: "BAD", ahead of all others.
    private static void filmBad() {
        for (int what : new int[] {LEAST, -1, 2, MOST}) {
            refuses("film of what " + what, x -> x.film(what, 0, 0, 0), -1);
            refuses("film of what " + what + " ahead of NULL", x -> x.film(what, 3, 0, 0), -1);
        }
        for (int sheet : NO_SHEETS) {
            refuses("film to " + sheet, x -> x.film(0, sheet, 0, 0), -1);
        }
        for (int lane : NO_LANES) {
            refuses("film of lane " + lane, x -> x.film(0, 0, lane, 0), -1);
            refuses("film of lane " + lane + " ahead of NULL", x -> x.film(1, 3, lane, 0), -1);
        }
    }

    // "NULL; CAST; INDEX", in this order; five letters come, more than the rows hold.
    private static void filmNullCastIndex() {
        for (int what = 0; what <= 1; what++) {
            int asked = what;
            for (int lane = 0; lane < 4; lane++) {
                int one = lane;
                refuses("film NULL", x -> x.film(asked, 3, one, -1), -11);
                refuses("film CAST or INDEX", x -> x.film(asked, 0, one, 9), one == 0 ? -13 : -12);
                refuses("film CAST or INDEX", x -> x.film(asked, 1, one, -1), one == 1 ? -13 : -12);
                refuses("film CAST or INDEX", x -> x.film(asked, 2, one, 0), one == 3 ? -13 : -12);
            }
            for (int i : new int[] {LEAST, -5, -1, 0, 1, 2, 3, 4, 60, MOST}) {
                refuses("film INDEX at " + i, x -> x.film(asked, 0, 0, i), -13);
            }
        }
    }

    // Letters come to the items from i on, as many as there are, and no others are changed.
    private static void filmFits() {
        for (int lane = 0; lane < 4; lane++) {
            for (int i = -1; i <= 4; i++) {
                PhraseSwaps x = Check.of("ab;p:b=xy");
                Check.write(x, 3, lane, 6, "zzzzzz");
                boolean fits = i >= 0 && i <= 3;
                check.due("film at " + i, x.film(0, 3, lane, i), fits ? 3 : -13);
                String want = fits ? "zzzzzz".substring(0, i) + "axy" + "zzzzzz".substring(i + 3) : "zzzzzz";
                dueRow("film at " + i, x, 3, lane, want);
            }
        }
    }

    private static void filmOf0To60() {
        PhraseSwaps x = Check.of(Check.many("ab", 30));
        x.sheet(0, 0, 60);
        x.sheet(1, 0, 59);
        check.due("60 to 59", x.film(0, 1, 0, 0), -13);
        check.due("60 at 1", x.film(0, 0, 0, 1), -13);
        check.due("60 to 60", x.film(0, 0, 0, 0), 60);
        dueRow("60", x, 0, 0, Check.many("ab", 30));
        PhraseSwaps y = Check.of("a;p:a=");
        Check.write(y, 0, 1, 2, "cd");
        y.sheet(1, 1, 0);
        check.due("none to none", y.film(0, 1, 1, 0), 0);
        check.due("none at 0", y.film(0, 0, 1, 0), 0);
        check.due("none at the end", y.film(1, 0, 1, 2), 0);
        check.due("none behind the end", y.film(0, 0, 1, 3), -13);
        check.due("none ahead of it", y.film(1, 0, 1, -1), -13);
        dueRow("none changes none", y, 0, 1, "cd");
    }

    private static void filmOfTooMany() {
        for (int what = 0; what <= 1; what++) {
            PhraseSwaps x = Check.of("a" + Check.many("b", 59) + ";f:a=cd");
            Check.write(x, 0, 3, 60, Check.many("z", 60));
            check.due("61 to 60", x.film(what, 0, 3, 0), -13);
            x.turn(0);
            check.due("60 to 60", x.film(what, 0, 3, 0), 60);
            PhraseSwaps y = Check.of(Check.many("a", 60) + ";p:a=bbbbbb");
            Check.write(y, 0, 3, 60, Check.many("z", 60));
            check.due("360 to 60", y.film(what, 0, 3, 0), -13);
            dueRow("refused changes none", y, 0, 3, Check.many("z", 60));
        }
    }

    // "SOURCES (1), an item each": no letter stands there then, and none else is changed.
    private static void filmOfSources() {
        PhraseSwaps x = Check.of("ab;p:b=xy");
        Check.write(x, 3, 0, 5, "zzzzz");
        check.due("sources", x.film(1, 3, 0, 1), 3);
        Check.job(x, "z;p:a=");
        int[] due = {31, 0, 0, 0, 31};
        for (int i = 0; i < 5; i++) {
            check.due("item " + i, x.came(0, 3, 0, i, 1), due[i]);
        }
    }

    // Promise 25: "BAD", ahead of all others; "n items (0 .. 60)".
    private static void cameBad() {
        for (int rule : new int[] {LEAST, -1, 3, 10, 32, MOST}) {
            refuses("came of rule " + rule, x -> x.came(rule, 0, 0, 0, 3), -1);
            refuses("came of rule " + rule + " ahead of NULL", x -> x.came(rule, 3, 0, 0, 3), -1);
        }
        for (int sheet : NO_SHEETS) {
            refuses("came of sheet " + sheet, x -> x.came(0, sheet, 0, 0, 3), -1);
        }
        for (int lane : NO_LANES) {
            refuses("came of lane " + lane, x -> x.came(0, 0, lane, 0, 3), -1);
            refuses("came of lane " + lane + " ahead of NULL", x -> x.came(0, 3, lane, 0, 3), -1);
        }
        for (int n : new int[] {LEAST, -1, 61, MOST}) {
            refuses("came of " + n, x -> x.came(0, 0, 0, 0, n), -1);
            refuses("came of " + n + " ahead of NULL", x -> x.came(0, 3, 0, 0, n), -1);
            refuses("came of " + n + " ahead of CAST", x -> x.came(0, 0, 1, 0, n), -1);
            refuses("came of " + n + " ahead of INDEX", x -> x.came(0, 0, 0, -1, n), -1);
        }
        check.due("came of no rules", new PhraseSwaps().came(0, 0, 0, 0, 0), -1);
    }

    // "NULL; CAST; INDEX", in this order.
    private static void cameNullCastIndex() {
        for (int lane = 0; lane < 4; lane++) {
            int one = lane;
            refuses("came NULL", x -> x.came(0, 3, one, -1, 60), -11);
            refuses("came CAST or INDEX", x -> x.came(0, 0, one, 9, 1), one == 0 ? -13 : -12);
            refuses("came CAST or INDEX", x -> x.came(0, 1, one, 0, 5), one == 1 ? -13 : -12);
            refuses("came CAST or INDEX", x -> x.came(0, 2, one, 0, 1), one == 3 ? -13 : -12);
        }
        int[][] outside = {
            {-1, 0}, {-1, 1}, {-1, 3}, {0, 4}, {1, 3}, {2, 2}, {3, 1}, {4, 0}, {0, 60}, {LEAST, 0}, {LEAST, 60}, {MOST, 0},
            {MOST, 1}, {MOST, 60}, {-60, 60},
        };
        for (int[] one : outside) {
            refuses("came INDEX from " + one[0] + " of " + one[1], x -> x.came(0, 0, 0, one[0], one[1]), -13);
        }
        int[][] inside = {{0, 0}, {0, 1}, {0, 3}, {1, 2}, {2, 1}, {3, 0}};
        for (int[] one : inside) {
            refuses("came from " + one[0] + " of " + one[1], x -> x.came(0, 0, 0, one[0], one[1]), 0);
        }
    }

    private static void dueCame(String text, String row, int i, int n, int want) {
        for (int lane = 0; lane < 4; lane++) {
            PhraseSwaps x = Check.of(text);
            Check.write(x, 0, lane, row.length(), row);
            check.due("came of " + text + " by " + row + " from " + i + " of " + n, x.came(0, 0, lane, i, n), want);
        }
    }

    // "a row tells what COMES, LETTER by LETTER, all of it".
    private static void cameOfAllOfIt() {
        dueCame("abc;p:z=", "zabcz", 1, 3, 31);
        dueCame("abc;p:z=", "zabcz", 1, 2, 0);
        dueCame("abc;p:z=", "zabcz", 1, 4, 0);
        dueCame("abc;p:z=", "zabcz", 0, 3, 0);
        dueCame("abc;p:z=", "zabcz", 2, 3, 0);
        dueCame("abc;p:z=", "abc", 0, 3, 31);
        dueCame("abc;p:z=", "bbc", 0, 3, 0);
        dueCame("abc;p:z=", "abb", 0, 3, 0);
        dueCame("abc;p:z=", "abc", 0, 0, 0);
        dueCame("abc;p:abc=", "abc", 3, 0, 31);
    }

    // "(97 .. 122, 95)".
    private static void cameOfLetters() {
        for (char letter : new char[] {'a', 'b', 'y', 'z', '_'}) {
            dueCame(letter + ";p:m=", String.valueOf(letter), 0, 1, 31);
            dueCame(letter + ";p:m=", "m", 0, 1, 0);
            dueCame("m;p:m=" + letter, String.valueOf(letter), 0, 1, 31);
        }
    }

    private static void cameOf0And60() {
        dueCame(";p:a=", "", 0, 0, 31);
        dueCame("a;p:a=", "", 0, 0, 31);
        dueCame("a;p:b=", "", 0, 0, 0);
        dueCame("ba;p:a=b", "", 0, 0, 0);
        String line = Check.many("ab", 30);
        dueCame(line + ";p:c=", line, 0, 60, 31);
        dueCame(line + ";p:c=", line, 0, 59, 0);
        dueCame(line + ";p:c=", line.substring(1) + "c", 0, 60, 0);
        dueCame(line + ";p:c=", line.substring(0, 59) + "c", 0, 60, 0);
        dueCame(line + ";p:ab=b", Check.many("b", 30), 0, 30, 1);
    }

    // "KINDS (a set) of a RULE by which it would be so": bits 1 PLAIN, 2 WHOLE, 4 FRONT, 8 TURNED, 16 ONCE.
    private static void cameOfKinds() {
        for (char kind : "pwfto".toCharArray()) {
            String text = "a_ab_ba_a;" + kind + ":a=xy";
            dueCame(text, "xy_xyb_bxy_xy", 0, 13, 1);
            dueCame(text, "xy_ab_ba_xy", 0, 11, 2);
            dueCame(text, "xy_xyb_ba_xy", 0, 12, 4);
            dueCame(text, "yx_ab_ba_yx", 0, 11, 8);
            dueCame(text, "xy_ab_ba_a", 0, 10, 16);
            dueCame(text, "a_ab_ba_a", 0, 9, 0);
            dueCame("a;" + kind + ":a=xy", "xy", 0, 2, 23);
            dueCame("a;" + kind + ":a=xx", "xx", 0, 2, 31);
            dueCame("ba;" + kind + ":a=x", "ba", 0, 2, 30);
        }
        PhraseSwaps x = Check.of("a;t:a=xy");
        Check.write(x, 0, 0, 2, "xy");
        x.came(0, 0, 0, 0, 2);
        check.due("its own kind stays", x.of(0, 0), 3);
        check.dueText("and what comes", Check.made(x), "yx");
    }

    // What would be more than 60 letters is told by no row.
    private static void cameOfTooMany() {
        String line = Check.many("a", 60);
        dueCame(line + ";p:a=aa", line, 0, 60, 2 + 8);
        dueCame(line + ";p:a=b", "b" + line.substring(1), 0, 60, 4 + 16);
        dueCame(Check.many("a", 30) + ";p:a=aa", line, 0, 60, 1);
    }
}
