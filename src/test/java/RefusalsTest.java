/**
 * Refusals other than a plain BAD, the order in which they are told at each act, and that they change nothing, FINDINGS
 * but count(8). BoundsTest has BAD, number by number.
 */
public final class RefusalsTest {
    private static final Check check = new Check();
    private static final long LEAST_INT = Integer.MIN_VALUE;
    private static final int BAD = FoolVotes.BAD, NOT = FoolVotes.NOT, FULL = FoolVotes.FULL;
    private static final int NULL = -11, INDEX = -12, CAST = -13, STORE = -14, SIZE = -15;

    public static void main(String[] args) {
        names();
        texts();
        eventsAndSeen();
        lostSheets();
        newSheets();
        items();
        copies();
        latestFinding();
        check.end("RefusalsTest");
    }

    private static void names() {
        check.of("NONE -1, BAD -2, NOT -3, FULL -4");
        check.due("NONE", FoolVotes.NONE, -1);
        check.due("BAD", FoolVotes.BAD, -2);
        check.due("NOT", FoolVotes.NOT, -3);
        check.due("FULL", FoolVotes.FULL, -4);
    }

    /** In a canton of this kind the call is refused so; count(8) tells it if it is a FINDING; nothing else changes. */
    private static void refused(String kind, String call, long answer) {
        boolean found = answer <= NULL && answer >= SIZE;
        refused(kind, call, answer, found ? (int) (-10 - answer) : 0);
    }

    private static void refused(String kind, String call, long answer, int finding) {
        FoolVotes x = Cantons.make(kind);
        check.due(x, call, answer);
        check.due(call + ": count(8)", x.count(8), finding);
        check.alike(kind + " " + call, x, Cantons.make(kind));
        // twice: a refusal is no less one by the first
        FoolVotes y = Cantons.make(kind);
        check.due(y, call, answer);
        check.due(y, call, answer);
    }

    private static void texts() {
        check.of("2 type: FULL, at 31 bytes of text 0");
        refused("full", "type(0, 59)", FULL);
        refused("full", "type(0, 0)", FULL);
        check.of("2 type: FULL, at 35 bytes of text 1");
        refused("full", "type(1, 59)", FULL);
        refused("full", "type(1, 255)", FULL);
        check.of("2 type: BAD is told ahead of FULL");
        refused("full", "type(0, 256)", BAD);
        refused("full", "type(1, -1)", BAD);
        refused("full", "type(2, 59)", BAD);
        check.of("4 undo: NOT, it is empty");
        refused("new", "undo(0)", NOT);
        refused("new", "undo(1)", NOT);
        check.of("4 undo: BAD is told where it is empty too");
        refused("new", "undo(2)", BAD);
        refused("new", "undo(-1)", BAD);
    }

    private static void eventsAndSeen() {
        check.of("9 event: FULL, at 8 EVENTS");
        for (int kind = 0; kind < 3; kind++) {
            refused("full", "event(" + kind + ", 0, 0)", FULL);
            refused("full", "event(" + kind + ", 23, 7)", FULL);
        }
        check.of("9 event: BAD is told ahead of FULL");
        refused("full", "event(3, 0, 0)", BAD);
        refused("full", "event(0, 24, 0)", BAD);
        refused("full", "event(1, 0, 8)", BAD);
        refused("full", "event(-1, 0, 0)", BAD);
        refused("full", "event(0, -1, 0)", BAD);
        refused("full", "event(0, 0, -1)", BAD);
        check.of("10 back: NOT, there is none");
        refused("new", "back()", NOT);
        check.of("23 seen: FULL, at 8 SEEN");
        refused("full", "seen(0, 0)", FULL);
        refused("full", "seen(11, 1)", FULL);
        check.of("23 seen: BAD is told ahead of FULL");
        refused("full", "seen(12, 0)", BAD);
        refused("full", "seen(0, 2)", BAD);
        refused("full", "seen(-1, 0)", BAD);
        refused("full", "seen(0, -1)", BAD);
    }

    private static void lostSheets() {
        String[] calls = {"read(*)", "lose(*)", "write(*)", "lay(*, 0, 0, 0)", "copy(*, 0, *, 0, 0)"};
        String[] promises = {"11 read", "31 lose", "35 write", "32 lay", "34 copy"};
        for (int k = 0; k < calls.length; k++) {
            check.of(promises[k] + ": NULL, of each SHEET that is LOST");
            for (int s = 0; s < 4; s++) {
                refused("new", calls[k].replace("*", "" + s), NULL);
            }
            refused("ordinary", calls[k].replace("*", "3"), NULL);
            check.of(promises[k] + ": BAD is told ahead of NULL");
            refused("new", calls[k].replace("*", "4"), BAD);
            refused("new", calls[k].replace("*", "-1"), BAD);
        }
        check.of("33 get: NULL is the least int");
        for (int s = 0; s < 4; s++) {
            refused("new", "get(" + s + ", 0, 0)", LEAST_INT, 1);
        }
        refused("ordinary", "get(3, 2, 0)", LEAST_INT, 1);
    }

    private static void newSheets() {
        check.of("30 sheet: SIZE, below 0");
        for (int s = 0; s < 4; s++) {
            refused("new", "sheet(" + s + ", 0, -1)", SIZE);
            refused("ordinary", "sheet(" + s + ", 2, -1)", SIZE);
            refused("full", "sheet(" + s + ", 1, " + LEAST_INT + ")", SIZE);
        }
        check.of("30 sheet: BAD is told ahead of SIZE");
        refused("ordinary", "sheet(4, 0, -1)", BAD);
        refused("ordinary", "sheet(-1, 0, -1)", BAD);
        refused("ordinary", "sheet(0, 3, -1)", BAD);
        refused("ordinary", "sheet(0, -1, -1)", BAD);
        check.of("30 sheet: above 60 is BAD, and the SHEET stays");
        refused("ordinary", "sheet(0, 0, 61)", BAD);
        refused("full", "sheet(2, 2, 61)", BAD);
    }

    /** The same refusal of lay() and of get(), which tells it by the least int. */
    private static void item(String kind, int s, int form, long i, int answer) {
        int finding = answer == BAD ? 0 : -10 - answer;
        refused(kind, "lay(" + s + ", " + form + ", " + i + ", 1)", answer, finding);
        refused(kind, "get(" + s + ", " + form + ", " + i + ")", LEAST_INT, finding);
    }

    private static void items() {
        check.of("32 lay, 33 get: CAST, it has another FORM");
        for (int s = 0; s < 3; s++) {
            for (int form = 0; form < 3; form++) {
                if (form != s) {
                    item("ordinary", s, form, 0, CAST);
                }
            }
        }
        check.of("32 lay, 33 get: CAST of a SHEET without items");
        item("full", 3, 1, 0, CAST);
        item("full", 3, 2, 0, CAST);
        check.of("32 lay, 33 get: INDEX, there is no such item");
        int[] sizes = {6, 4, 9};
        for (int s = 0; s < 3; s++) {
            item("ordinary", s, s, -1, INDEX);
            item("ordinary", s, s, sizes[s], INDEX);
            item("ordinary", s, s, LEAST_INT, INDEX);
            item("ordinary", s, s, Integer.MAX_VALUE, INDEX);
            item("full", s, s, 60, INDEX);
            item("full", s, s, -1, INDEX);
        }
        check.of("32 lay, 33 get: INDEX at once, of a SHEET without items");
        item("full", 3, 0, 0, INDEX);
        item("full", 3, 0, -1, INDEX);
        check.of("32 lay, 33 get: BAD is told ahead of NULL, CAST and INDEX");
        item("new", 0, 3, 0, BAD);
        item("new", 0, -1, 0, BAD);
        item("new", 4, 0, 0, BAD);
        item("ordinary", 1, 3, 9, BAD);
        item("ordinary", 1, -1, -1, BAD);
        item("ordinary", -1, 0, -1, BAD);
        check.of("32 lay, 33 get: NULL is told ahead of CAST and INDEX");
        item("ordinary", 3, 1, -1, NULL);
        item("ordinary", 3, 2, 60, NULL);
        check.of("32 lay, 33 get: CAST is told ahead of INDEX");
        item("ordinary", 0, 1, 6, CAST);
        item("ordinary", 1, 2, -1, CAST);
    }

    private static void copies() {
        check.of("34 copy: NULL of s, and of t");
        refused("ordinary", "copy(3, 0, 0, 0, 1)", NULL);
        refused("ordinary", "copy(0, 0, 3, 0, 1)", NULL);
        refused("ordinary", "copy(3, 0, 3, 0, 0)", NULL);
        check.of("34 copy: BAD is told ahead of NULL, of either");
        refused("ordinary", "copy(3, 0, 4, 0, 1)", BAD);
        refused("ordinary", "copy(4, 0, 3, 0, 1)", BAD);
        refused("ordinary", "copy(3, 0, -1, 0, 1)", BAD);
        refused("ordinary", "copy(-1, 0, 3, 0, 1)", BAD);
        check.of("34 copy: STORE, unlike FORMS, of no items too");
        refused("ordinary", "copy(0, 0, 1, 0, 1)", STORE);
        refused("ordinary", "copy(1, 0, 2, 0, 1)", STORE);
        refused("ordinary", "copy(2, 0, 0, 0, 0)", STORE);
        check.of("34 copy: NULL is told ahead of STORE and INDEX");
        refused("ordinary", "copy(3, -1, 1, 0, 1)", NULL);
        refused("ordinary", "copy(2, 0, 3, -1, -1)", NULL);
        check.of("34 copy: STORE is told ahead of INDEX");
        refused("ordinary", "copy(0, -1, 1, 0, 1)", STORE);
        refused("ordinary", "copy(0, 0, 2, 0, 99)", STORE);
        refused("ordinary", "copy(1, 0, 2, 0, -1)", STORE);
        check.of("34 copy: INDEX, below 0");
        refused("ordinary", "copy(2, -1, 2, 0, 1)", INDEX);
        refused("ordinary", "copy(2, 0, 2, -1, 1)", INDEX);
        refused("ordinary", "copy(2, 0, 2, 0, -1)", INDEX);
        refused("ordinary", "copy(2, -1, 2, -1, 0)", INDEX);
        refused("full", "copy(0, -1, 3, 0, 0)", INDEX);
        refused("full", "copy(3, 0, 0, -1, 0)", INDEX);
        check.of("34 copy: INDEX, not so many");
        refused("ordinary", "copy(2, 0, 2, 0, 10)", INDEX);
        refused("ordinary", "copy(2, 8, 2, 0, 2)", INDEX);
        refused("ordinary", "copy(2, 0, 2, 8, 2)", INDEX);
        refused("ordinary", "copy(2, 9, 2, 0, 1)", INDEX);
        refused("ordinary", "copy(2, 0, 2, 9, 1)", INDEX);
        refused("ordinary", "copy(2, 10, 2, 0, 0)", INDEX);
        refused("full", "copy(0, 0, 3, 0, 1)", INDEX);
        refused("full", "copy(3, 0, 0, 0, 1)", INDEX);
        refused("full", "copy(1, 59, 1, 0, 2)", INDEX);
        check.of("34 copy: INDEX, where sums of ints would wrap");
        refused("full", "copy(0, 2147483647, 0, 0, 2147483647)", INDEX);
        refused("full", "copy(0, 1, 0, 0, 2147483647)", INDEX);
        refused("full", "copy(0, 0, 0, 1, 2147483647)", INDEX);
        refused("full", "copy(0, 2147483647, 0, 0, 1)", INDEX);
        refused("full", "copy(0, 0, 0, 2147483647, 1)", INDEX);
        refused("full", "copy(0, -2147483648, 0, 0, -2147483648)", INDEX);
        refused("full", "copy(0, 0, 0, -2147483648, -2147483648)", INDEX);
    }

    private static void latestFinding() {
        check.of("36 count: 8 is the number of the latest FINDING (0 before any)");
        FoolVotes x = Cantons.ordinary();
        check.due(x, "count(8)", 0);
        String[] calls = {"lose(3)", "lay(0, 0, 6, 1)", "get(0, 1, 0)", "copy(0, 0, 1, 0, 1)", "sheet(0, 0, -1)"};
        for (int k = 0; k < calls.length; k++) {
            Ask.of(x, calls[k]);
            check.due(calls[k] + " is FINDING", x.count(8), k + 1);
        }
        for (int k = calls.length - 1; k >= 0; k--) {
            Ask.of(x, calls[k]);
            check.due(calls[k] + " is FINDING, the latest", x.count(8), k + 1);
        }
        check.of("36 count: 8 stays, whatever is well, BAD, NOT or FULL behind it");
        String[] well = {
            "sheet(3, 1, 4)", "lay(3, 1, 0, 1)", "get(3, 1, 0)", "copy(3, 0, 1, 0, 4)", "write(3)", "read(3)", "lose(3)",
            "wipe(0)", "undo(0)", "type(2, 0)", "forget()", "event(0, 0, 0)", "event(0, 0, 8)", "count(9)",
        };
        for (int finding = 1; finding <= 5; finding++) {
            FoolVotes y = Cantons.ordinary();
            Ask.of(y, calls[finding - 1]);
            for (String call : well) {
                Ask.of(y, call);
                check.due(call + " leaves count(8)", y.count(8), finding);
            }
            for (int e = 0; e < 9; e++) {
                y.event(0, 0, 0);
                y.seen(0, 0);
            }
            check.due("FULL leaves count(8)", y.count(8), finding);
        }
        check.of("a FINDING's number is in no digest");
        FoolVotes z = Cantons.full();
        long before = z.digest();
        z.get(0, 1, 0);
        check.due("digest", z.digest(), before);
    }
}
