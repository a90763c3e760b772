import java.util.Random;

/** All promises: runs of calls by chance, each answer held against that of the model. */
public final class ModelTests {
    private static final Check check = new Check();
    private static final int RUNS = 3000;
    /** An object is asked 512 times at most, and a text may take 220 calls. */
    private static final int CALLS = 512 - 220;

    public static void main(String[] args) {
        for (int run = 0; run < RUNS; run++) {
            run(run);
        }
        check.finish("ModelTests");
    }

    private static void run(int seed) {
        Random chance = new Random(seed);
        PhraseSwaps x = new PhraseSwaps();
        Model y = new Model();
        String letters = new String[] {"a_", "ab", "ab_", "abc_", "aaab_"}[chance.nextInt(5)];
        int first = check.held();
        tellBoth(x, y, jobText(chance, letters));
        check.due("run " + seed + " job", x.job(), y.job());
        for (int call = 0; check.held() - first < CALLS && call < CALLS; call++) {
            oneCall("run " + seed + " call " + call, x, y, chance, letters);
        }
    }

    private static void tellBoth(PhraseSwaps x, Model y, String text) {
        for (int k = 0; k < text.length(); k++) {
            check.due("type", x.type(text.charAt(k)), y.type(text.charAt(k)));
        }
    }

    private static String word(Random chance, String letters, int least, int most) {
        StringBuilder word = new StringBuilder();
        int size = least + chance.nextInt(most - least + 1);
        for (int k = 0; k < size; k++) {
            word.append(letters.charAt(chance.nextInt(letters.length())));
        }
        return word.toString();
    }

    private static String ruleText(Random chance, String letters) {
        int most = chance.nextInt(4) == 0 ? 6 : 3;
        return "pwfto".charAt(chance.nextInt(5)) + ":" + word(chance, letters, 1, most) + "=" + word(chance, letters, 0, most);
    }

    private static String jobText(Random chance, String letters) {
        StringBuilder text = new StringBuilder(word(chance, letters, 0, chance.nextInt(3) == 0 ? 60 : 12));
        int rules = chance.nextInt(20) == 0 ? 10 : chance.nextInt(5);
        for (int k = 0; k < rules; k++) {
            text.append(';').append(ruleText(chance, letters));
        }
        return text.toString();
    }

    /** A text that is now and then spoilt: a sign put in, taken out, or the end cut off. */
    private static String spoilt(Random chance, String text) {
        int place = chance.nextInt(text.length() + 1);
        String sign = String.valueOf(" ab_;:=pwX".charAt(chance.nextInt(10)));
        switch (chance.nextInt(6)) {
            case 0: return text.substring(0, place) + sign + text.substring(place);
            case 1: return text.substring(0, place);
            case 2: return text.substring(0, place) + "   " + text.substring(place);
            case 3: return place < text.length() ? text.substring(0, place) + sign + text.substring(place + 1) : text;
            default: return text;
        }
    }

    private static int number(Random chance, int usual) {
        switch (chance.nextInt(12)) {
            case 0: return -1;
            case 1: return usual;
            case 2: return chance.nextInt(20) == 0 ? chance.nextInt() : usual + 1;
            default: return chance.nextInt(Math.max(1, usual));
        }
    }

    private static void oneCall(String name, PhraseSwaps x, Model y, Random chance, String letters) {
        int kind = chance.nextInt(100);
        if (kind < 30) {
            doneCall(name, x, y, chance, letters);
        } else if (kind < 70) {
            askedCall(name, x, y, chance);
        } else {
            sheetCall(name, x, y, chance);
        }
    }

    private static void doneCall(String name, PhraseSwaps x, Model y, Random chance, String letters) {
        int size = y.count(0);
        int rules = y.count(1);
        switch (chance.nextInt(14)) {
            case 0: {
                tellBoth(x, y, spoilt(chance, jobText(chance, letters)));
                check.due(name + " job", x.job(), y.job());
                break;
            }
            case 1: {
                tellBoth(x, y, spoilt(chance, ruleText(chance, letters)));
                check.due(name + " rule", x.rule(), y.rule());
                break;
            }
            case 2: case 3: {
                int place = number(chance, size);
                int letter = chance.nextInt(9) == 0 ? chance.nextInt(130) : letters.charAt(chance.nextInt(letters.length()));
                check.due(name + " change", x.change(place, letter), y.change(place, letter));
                break;
            }
            case 4: {
                int rule = number(chance, rules);
                check.due(name + " turn", x.turn(rule), y.turn(rule));
                break;
            }
            case 5: case 6: case 7: {
                int set = number(chance, 1 << rules);
                check.due(name + " pass", x.pass(set), y.pass(set));
                break;
            }
            case 8: {
                int sort = number(chance, 3);
                check.due(name + " pile", x.pile(sort), y.pile(sort));
                break;
            }
            case 9: {
                for (int k = 0; k < 3; k++) {
                    int rule = number(chance, rules);
                    check.due(name + " put", x.put(rule), y.put(rule));
                }
                break;
            }
            case 10: check.due(name + " passPile", x.passPile(), y.passPile()); break;
            case 11: check.due(name + " undo", x.undo(), y.undo()); break;
            case 12: check.due(name + " image", x.image(), y.image()); break;
            default: check.due(name + " restore", x.restore(), y.restore()); break;
        }
    }

    private static void askedCall(String name, PhraseSwaps x, Model y, Random chance) {
        int size = y.count(0);
        int rule = number(chance, y.count(1));
        int place = number(chance, size);
        int what = chance.nextInt(6) - (chance.nextInt(8) == 0 ? 1 : 0);
        switch (chance.nextInt(12)) {
            case 0: check.due(name + " of", x.of(rule, what), y.of(rule, what)); break;
            case 1: {
                int k = number(chance, 6);
                check.due(name + " spelt", x.spelt(rule, what / 2, k), y.spelt(rule, what / 2, k));
                break;
            }
            case 2: check.due(name + " at", x.at(place, what / 2), y.at(place, what / 2)); break;
            case 3: {
                int count = number(chance, 7);
                check.due(name + " count " + count, x.count(count), y.count(count));
                break;
            }
            case 4: check.due(name + " comes", x.comes(what, place), y.comes(what, place)); break;
            case 5: check.due(name + " used", x.used(place), y.used(place)); break;
            case 6: {
                int source = chance.nextInt(4) == 0 ? number(chance, 60) : place;
                check.due(name + " went", x.went(source), y.went(source));
                break;
            }
            case 7: check.due(name + " rest", x.rest(), y.rest()); break;
            case 8: case 9: {
                int n = number(chance, size + 1);
                check.due(name + " sure " + n + " of " + y.line(), x.sure(n), y.sure(n));
                break;
            }
            case 10: check.due(name + " lean", x.lean(what / 2), y.lean(what / 2)); break;
            default: oddsCall(name, x, y, chance); break;
        }
    }

    private static void oddsCall(String name, PhraseSwaps x, Model y, Random chance) {
        if (y.count(1) > 5 && chance.nextInt(10) > 0) {
            return;
        }
        int near = y.comes(0, 0) + chance.nextInt(7) - 3;
        int m = chance.nextInt(8) == 0 ? number(chance, 361) : near;
        int c = number(chance, 11);
        int what = number(chance, 2);
        check.due(name + " longOdds", x.longOdds(m, c, what), y.longOdds(m, c, what));
    }

    private static void sheetCall(String name, PhraseSwaps x, Model y, Random chance) {
        int sheet = number(chance, 4);
        int lane = number(chance, 2) * (chance.nextInt(9) == 0 ? 3 : 1);
        int i = chance.nextInt(3) == 0 ? number(chance, 12) : 0;
        int n = chance.nextInt(2) == 0 ? y.comes(0, 0) : number(chance, 61);
        switch (chance.nextInt(7)) {
            case 0: check.due(name + " sheet", x.sheet(sheet, lane, n), y.sheet(sheet, lane, n)); break;
            case 1: {
                if (chance.nextInt(4) == 0) {
                    check.due(name + " drop", x.drop(sheet), y.drop(sheet));
                }
                break;
            }
            case 2: {
                long v = chance.nextBoolean() ? 'a' + chance.nextInt(3) : chance.nextLong() << 16 | 'a';
                check.due(name + " item", x.item(sheet, lane, i, v), y.item(sheet, lane, i, v));
                break;
            }
            case 3: {
                int to = number(chance, 4);
                int j = number(chance, 12);
                int few = number(chance, 12);
                check.due(name + " copy", x.copy(sheet, i, to, j, few), y.copy(sheet, i, to, j, few));
                break;
            }
            case 4: {
                int what = number(chance, 2);
                check.due(name + " film", x.film(what, sheet, lane, i), y.film(what, sheet, lane, i));
                break;
            }
            default: cameCall(name, x, y, chance, sheet, lane, i); break;
        }
    }

    /** By a film first, so that the row often tells what comes. */
    private static void cameCall(String name, PhraseSwaps x, Model y, Random chance, int sheet, int lane, int i) {
        int rule = number(chance, y.count(1));
        int n = y.comes(0, 0) + (chance.nextInt(8) == 0 ? 1 : 0);
        if (chance.nextInt(3) > 0) {
            check.due(name + " sheet", x.sheet(sheet, lane, 60), y.sheet(sheet, lane, 60));
            check.due(name + " film", x.film(0, sheet, lane, i), y.film(0, sheet, lane, i));
        }
        check.due(name + " came", x.came(rule, sheet, lane, i, n), y.came(rule, sheet, lane, i, n));
    }
}
