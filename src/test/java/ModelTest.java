import java.util.Random;

/** Long runs of calls by lot on FoolVotes and on the plain model: each answer must be the same. */
public final class ModelTest {
    private static final int RUNS = 200, CALLS = 500;
    private static final Check check = new Check();
    private static Random lots;
    private static FoolVotes x;
    private static PlainModel y;

    public static void main(String[] args) {
        for (int run = 0; run < RUNS; run++) {
            lots = new Random(run);
            x = new FoolVotes();
            y = new PlainModel();
            begin();
            for (int i = 0; i < CALLS; i++) {
                if (lots.nextInt(4) == 0) {
                    change();
                } else {
                    question();
                }
            }
            same("digest", x.digest(), y.digest());
        }
        check.end("ModelTest");
    }

    /** A number from 0 to most, now and then one beside that or far off. */
    private static int upTo(int most) {
        switch (lots.nextInt(40)) {
            case 0:
                return -1 - lots.nextInt(2);
            case 1:
                return most + 1;
            case 2:
                return lots.nextInt(4) == 0 ? lots.nextInt() : most;
            default:
                return lots.nextInt(most + 1);
        }
    }

    private static void same(String name, long got, long want) {
        check.due(name, got, want);
    }

    private static void type(int text, int b) {
        same("type", x.type(text, b), y.type(text, b));
    }

    /** Most runs begin with a full canton, for what is rare there. */
    private static void begin() {
        int items = lots.nextInt(4) == 0 ? 0 : 20;
        for (int i = 0; i < items; i++) {
            typeItem();
        }
        mend(0);
        mend(1);
    }

    private static void mend(int text) {
        while (y.fault(text) != -1) {
            same("undo", x.undo(text), y.undo(text));
        }
    }

    private static void typeItem() {
        int text = lots.nextInt(2);
        if (y.texts[text].length() > 0 && lots.nextInt(30) > 0) {
            type(text, ';');
        }
        if (text == 0) {
            type(0, "swm".charAt(lots.nextInt(3)));
            type(0, '0' + lots.nextInt(8));
            type(0, '0' + lots.nextInt(3));
        } else {
            type(1, 'a' + (lots.nextBoolean() ? lots.nextInt(4) : lots.nextInt(24)));
            type(1, '0' + lots.nextInt(8));
        }
    }

    private static void change() {
        if (lots.nextInt(3) > 0) {
            mend(0);
            mend(1);
        }
        int a = upTo(1);
        switch (lots.nextInt(14)) {
            case 0: case 1: case 2: case 3: case 4:
                typeItem();
                break;
            case 5:
                int b = lots.nextInt(12) == 0 ? upTo(255) : ';';
                same("type", x.type(a, b), y.type(a, b));
                break;
            case 6:
                if (lots.nextInt(8) == 0) {
                    same("wipe", x.wipe(a), y.wipe(a));
                }
                break;
            case 7:
                same("undo", x.undo(a), y.undo(a));
                break;
            case 8:
                int v = upTo(a == 0 ? 7 : 9);
                same("fool", x.fool(a, v), y.fool(a, v));
                break;
            case 9: case 10:
                int kind = upTo(2);
                int year = lots.nextBoolean() ? lots.nextInt(4) : upTo(23);
                int number = upTo(7);
                same("event", x.event(kind, year, number), y.event(kind, year, number));
                break;
            case 11:
                same("back", x.back(), y.back());
                break;
            case 12:
                int m = lots.nextBoolean() ? lots.nextInt(5) : upTo(11);
                same("seen", x.seen(m, a), y.seen(m, a));
                break;
            default:
                if (lots.nextInt(3) == 0) {
                    same("forget", x.forget(), y.forget());
                }
                int s = upTo(3);
                same("read", x.read(s), y.read(s));
        }
    }

    private static void question() {
        int m = upTo(11);
        int v = upTo(7);
        int w = upTo(1);
        switch (lots.nextInt(26)) {
            case 0: same("fault", x.fault(w), y.fault(w)); break;
            case 1: { int k = upTo(2); same("voter", x.voter(v, k), y.voter(v, k)); break; }
            case 2: same("measure", x.measure(m, w), y.measure(m, w)); break;
            case 3: same("said", x.said(m, v), y.said(m, v)); break;
            case 4: { int k = upTo(4); same("tally", x.tally(m, k), y.tally(m, k)); break; }
            case 5: { int k = upTo(3); same("at", x.at(v, k), y.at(v, k)); break; }
            case 6: same("sum", x.sum(w), y.sum(w)); break;
            case 7: same("level", x.level(), y.level()); break;
            case 8: same("loyal", x.loyal(), y.loyal()); break;
            case 9: same("bitter", x.bitter(), y.bitter()); break;
            case 10: same("put", x.put(m, w), y.put(m, w)); break;
            case 11: { int k = upTo(2); same("swap", x.swap(k), y.swap(k)); break; }
            case 12: same("wish", x.wish(w), y.wish(w)); break;
            case 13: { int k = upTo(2) - 1; same("spare", x.spare(k), y.spare(k)); break; }
            case 14: same("might", x.might(w), y.might(w)); break;
            case 15: same("was", x.was(v, w), y.was(v, w)); break;
            case 16: same("ask", x.ask(), y.ask()); break;
            case 17: { int c = upTo(16); same("chance", x.chance(c, m, w), y.chance(c, m, w)); break; }
            case 18: { int seed = lots.nextInt(); same("ages", x.ages(seed, m, w), y.ages(seed, m, w)); break; }
            case 19: { int k = upTo(8); same("count", x.count(k), y.count(k)); break; }
            default: sheets();
        }
    }

    private static void sheets() {
        int s = upTo(3);
        int form = upTo(2);
        int i = lots.nextBoolean() ? lots.nextInt(8) : upTo(59);
        switch (lots.nextInt(7)) {
            case 0:
                int n = lots.nextInt(4) == 0 ? upTo(60) : lots.nextInt(16);
                same("sheet", x.sheet(s, form, n), y.sheet(s, form, n));
                break;
            case 1:
                if (lots.nextInt(4) == 0) {
                    same("lose", x.lose(s), y.lose(s));
                }
                break;
            case 2: case 3:
                int v = lots.nextInt(5) == 0 ? lots.nextInt() : lots.nextInt(3);
                same("lay", x.lay(s, form, i, v), y.lay(s, form, i, v));
                break;
            case 4:
                same("get", x.get(s, form, i), y.get(s, form, i));
                break;
            case 5:
                int t = upTo(3);
                int j = upTo(7);
                int k = upTo(7);
                same("copy", x.copy(s, i, t, j, k), y.copy(s, i, t, j, k));
                break;
            default:
                same("write", x.write(s), y.write(s));
        }
        same("count(8)", x.count(8), y.count(8));
    }
}
