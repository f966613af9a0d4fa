/** Edges of SHEETS, of what is read and written, of counts and of the digest; promises 11 and 30 to 37. */
public final class SheetEdgesTest {
    private static final Check check = new Check();
    private static final int LEAST = Integer.MIN_VALUE, MOST = Integer.MAX_VALUE;
    private static final int BAD = FoolVotes.BAD;

    public static void main(String[] args) {
        readWhole();
        readStops();
        readFull();
        sheet();
        lose();
        layLowestBits();
        layAtTheEnds();
        get();
        copyAsTheyWere();
        copyOfNone();
        write();
        count();
        digestOfNothing();
        digestWraps();
        digestParts();
        check.end("SheetEdgesTest");
    }

    private static void readWhole() {
        check.of("11 read: three items for each, as many as are whole: SHEETS of 0 to 24 items, of each FORM");
        for (int form = 0; form < 3; form++) {
            for (int n = 0; n <= 24; n++) {
                FoolVotes x = new FoolVotes();
                x.sheet(0, form, n);
                check.due("read of " + n, x.read(0), n / 3);
                check.due("EVENTS of " + n, x.count(4), n / 3);
            }
        }
        check.of("11 read: none is no refusal");
        FoolVotes x = Cantons.ordinary();
        x.sheet(3, 0, 2);
        check.due("read", x.read(3), 0);
        check.due("no FINDING", x.count(8), 0);
        check.due("EVENTS stay", x.count(4), 3);
        check.of("11 read: a kind, a YEAR, a number, in this order, the greatest of each too");
        FoolVotes y = Check.canton("s10;s10", "a1;x1;c1");
        Cantons.layRow(y, 2, 1, 2, 23, 1, 1, 0, 7, 0, 2, 0, 2, 23, 7);
        check.due("read", y.read(2), 4);
        FoolVotes z = Check.canton("s10;s10", "a1;x1;c1");
        Cantons.layRow(z, 2, 1, 2, 23, 1, 1, 0, 7, 0, 2, 0, 2, 23, 7);
        z.event(2, 23, 1);
        z.event(1, 0, 7);
        z.event(0, 2, 0);
        z.event(2, 23, 7);
        check.alike("as told one by one", y, z);
        check.of("11 read: EVENTS come behind those told; the SHEET stays, and may be read again");
        FoolVotes again = Cantons.ordinary();
        check.due("read", again.read(2), 2);
        check.due("EVENTS", again.count(4), 5);
        check.due("read again", again.read(2), 2);
        check.due("EVENTS", again.count(4), 7);
        FoolVotes told = Cantons.ordinary();
        for (int n = 0; n < 2; n++) {
            told.event(1, 5, 0);
            told.event(2, 0, 3);
        }
        check.alike("as told one by one", again, told);
    }

    private static void readStops() {
        check.of("11 read: as long as each may be: up to the first with a kind, a YEAR or a number that is not");
        int[][] wrong = {{-1, 0, 0}, {3, 0, 0}, {0, -1, 0}, {0, 24, 0}, {0, 0, -1}, {0, 0, 8}};
        for (int[] w : wrong) {
            for (int at = 0; at < 4; at++) {
                for (int form = 0; form < 3; form++) {
                    FoolVotes x = new FoolVotes();
                    x.sheet(1, form, 12);
                    for (int k = 0; k < 3; k++) {
                        x.lay(1, form, 3 * at + k, w[k]);
                    }
                    check.due("read up to " + at, x.read(1), at);
                    check.due("EVENTS up to " + at, x.count(4), at);
                    check.due("no FINDING", x.count(8), 0);
                }
            }
        }
        check.of("11 read: items as they are kept: a byte of 255 is below 0, a byte of 256 is 0");
        FoolVotes x = new FoolVotes();
        Cantons.layRow(x, 0, 0, 256, 256, 256, 255, 0, 0);
        check.due("bytes", x.read(0), 1);
        Cantons.layRow(x, 0, 1, 65536, 65536, 65536, 65535, 0, 0);
        check.due("shorts", x.read(0), 1);
        Cantons.layRow(x, 0, 2, 256, 0, 0);
        check.due("ints", x.read(0), 0);
        Cantons.layRow(x, 0, 2, LEAST, 0, 0);
        check.due("the least int", x.read(0), 0);
    }

    private static void readFull() {
        check.of("11 read: up to 8 EVENTS, from each number that is told already; then 0, no refusal");
        for (int told = 0; told <= 8; told++) {
            FoolVotes x = new FoolVotes();
            for (int e = 0; e < told; e++) {
                x.event(0, 0, 0);
            }
            x.sheet(0, 2, 60);
            check.due("read behind " + told, x.read(0), 8 - told);
            check.due("EVENTS", x.count(4), 8);
            check.due("read again", x.read(0), 0);
            check.due("EVENTS still", x.count(4), 8);
            check.due("no FINDING", x.count(8), 0);
        }
    }

    private static void sheet() {
        check.of("30 sheet: n items, each n from 0 to 60, of each FORM: n");
        FoolVotes x = new FoolVotes();
        for (int form = 0; form < 3; form++) {
            for (int n = 0; n <= 60; n++) {
                check.due("sheet", x.sheet(n % 4, form, n), n);
                check.due("lose", x.lose(n % 4), n);
            }
        }
        check.of("30 sheet: a new row: items are 0 at first, where others were, and where it was longer or shorter");
        FoolVotes y = new FoolVotes();
        int[][] rows = {{2, 60}, {2, 3}, {2, 60}, {0, 60}, {1, 60}, {2, 60}};
        for (int[] r : rows) {
            check.due("sheet", y.sheet(1, r[0], r[1]), r[1]);
            for (int i = 0; i < r[1]; i++) {
                check.due("item " + i, y.get(1, r[0], i), 0);
                y.lay(1, r[0], i, -1);
            }
        }
        check.of("30 sheet: one that was LOST is 0 at first too");
        y.lose(1);
        y.sheet(1, 2, 60);
        check.due("the first item", y.get(1, 2, 0), 0);
        check.due("the last item", y.get(1, 2, 59), 0);
        check.of("30 sheet: the other SHEETS stay");
        FoolVotes z = Cantons.ordinary();
        z.sheet(1, 2, 60);
        check.due("sheet 0", z.get(0, 0, 5), 10);
        check.due("sheet 2", z.get(2, 2, 0), 1);
        check.due("sheet 2", z.get(2, 2, 8), LEAST);
        check.due("sheet 3 is LOST", z.lose(3), -11);
    }

    private static void lose() {
        check.of("31 lose: how many items it had, 0 too; then NULL");
        FoolVotes x = Cantons.full();
        int[] had = {60, 60, 60, 0};
        for (int s = 0; s < 4; s++) {
            check.due("lose(" + s + ")", x.lose(s), had[s]);
            check.due("lose(" + s + ") again", x.lose(s), -11);
        }
        check.of("31 lose: that SHEET alone");
        FoolVotes y = Cantons.ordinary();
        y.lose(1);
        check.due("sheet 0", y.lose(0), 6);
        check.due("sheet 2", y.lose(2), 9);
    }

    private static void layLowestBits() {
        check.of("32 lay: the lowest bits that its FORM has: 8, 16, 32, the highest of them is the sign");
        int[][] rows = {
            // v, as a byte, as a short, as an int
            {0, 0, 0, 0}, {1, 1, 1, 1}, {-1, -1, -1, -1}, {127, 127, 127, 127}, {128, -128, 128, 128},
            {-128, -128, -128, -128}, {-129, 127, -129, -129}, {255, -1, 255, 255}, {256, 0, 256, 256},
            {257, 1, 257, 257}, {32767, -1, 32767, 32767}, {32768, 0, -32768, 32768}, {-32768, 0, -32768, -32768},
            {-32769, -1, 32767, -32769}, {65535, -1, -1, 65535}, {65536, 0, 0, 65536}, {98432, -128, -32640, 98432},
            {MOST, -1, -1, MOST}, {LEAST, 0, 0, LEAST}, {LEAST + 1, 1, 1, LEAST + 1},
        };
        for (int[] r : rows) {
            for (int form = 0; form < 3; form++) {
                FoolVotes x = new FoolVotes();
                x.sheet(0, form, 3);
                check.due("lay of " + r[0], x.lay(0, form, 1, r[0]), 1);
                check.due("get of " + r[0] + " by FORM " + form, x.get(0, form, 1), r[form + 1]);
                check.due("the item ahead", x.get(0, form, 0), 0);
                check.due("the item behind", x.get(0, form, 2), 0);
            }
        }
    }

    private static void layAtTheEnds() {
        check.of("32 lay: the first and the last item, of 1 and of 60");
        for (int n = 1; n <= 60; n += 59) {
            for (int s = 0; s < 4; s++) {
                FoolVotes x = new FoolVotes();
                x.sheet(s, 2, n);
                check.due("the first", x.lay(s, 2, 0, 8), 1);
                check.due("the last", x.lay(s, 2, n - 1, 9), 1);
                check.due("the last", x.get(s, 2, n - 1), 9);
                check.due("the first", x.get(s, 2, 0), n == 1 ? 9 : 8);
                check.due("one behind", x.lay(s, 2, n, 1), -12);
                check.due("one ahead", x.lay(s, 2, -1, 1), -12);
            }
        }
        check.of("32 lay: SHEETS are no part of one another, at their ends neither");
        FoolVotes x = new FoolVotes();
        for (int s = 0; s < 4; s++) {
            x.sheet(s, 2, 60);
        }
        for (int s = 0; s < 4; s++) {
            for (int i = 0; i < 60; i++) {
                x.lay(s, 2, i, 100 * s + i);
            }
        }
        for (int s = 0; s < 4; s++) {
            for (int i = 0; i < 60; i++) {
                check.due("get(" + s + ", 2, " + i + ")", x.get(s, 2, i), 100 * s + i);
            }
        }
    }

    private static void get() {
        check.of("33 get: an item that is the least int is no refusal, and count() 8 tells it");
        FoolVotes x = new FoolVotes();
        x.sheet(0, 2, 1);
        x.lay(0, 2, 0, LEAST);
        check.due("get", x.get(0, 2, 0), LEAST);
        check.due("no FINDING", x.count(8), 0);
        check.due("get", x.get(0, 2, 1), LEAST);
        check.due("INDEX", x.count(8), 2);
        check.of("33 get: BAD is the least int, and no FINDING");
        FoolVotes y = Cantons.ordinary();
        String[] bad = {"get(-1, 0, 0)", "get(4, 0, 0)", "get(0, -1, 0)", "get(0, 3, 0)", "get(3, 3, 0)"};
        for (String call : bad) {
            check.due(y, call, LEAST);
            check.due(call + " is no FINDING", y.count(8), 0);
        }
    }

    private static FoolVotes withRow(int form, int... items) {
        FoolVotes x = new FoolVotes();
        Cantons.layRow(x, 0, form, items);
        return x;
    }

    private static void row(String name, FoolVotes x, int s, int form, int... want) {
        for (int i = 0; i < want.length; i++) {
            check.due(name + ": item " + i, x.get(s, form, i), want[i]);
        }
    }

    private static void copyAsTheyWere() {
        check.of("34 copy: within one SHEET as they were, forward, back and onto themselves");
        for (int form = 0; form < 3; form++) {
            FoolVotes x = withRow(form, 1, 2, 3, 4, 5);
            check.due("forward", x.copy(0, 0, 0, 1, 4), 1);
            row("forward", x, 0, form, 1, 1, 2, 3, 4);
            x = withRow(form, 1, 2, 3, 4, 5);
            check.due("forward by two", x.copy(0, 0, 0, 2, 3), 1);
            row("forward by two", x, 0, form, 1, 2, 1, 2, 3);
            x = withRow(form, 1, 2, 3, 4, 5);
            check.due("back", x.copy(0, 1, 0, 0, 4), 1);
            row("back", x, 0, form, 2, 3, 4, 5, 5);
            check.due("onto themselves", x.copy(0, 0, 0, 0, 5), 1);
            row("onto themselves", x, 0, form, 2, 3, 4, 5, 5);
        }
        check.of("34 copy: all 60, and the last one alone, from the first SHEET to the last");
        FoolVotes x = new FoolVotes();
        x.sheet(0, 1, 60);
        x.sheet(3, 1, 60);
        for (int i = 0; i < 60; i++) {
            x.lay(0, 1, i, -i);
        }
        check.due("all", x.copy(0, 0, 3, 0, 60), 1);
        for (int i = 0; i < 60; i++) {
            check.due("item " + i, x.get(3, 1, i), -i);
        }
        check.due("the last to the first", x.copy(3, 59, 0, 0, 1), 1);
        check.due("the first", x.get(0, 1, 0), -59);
        check.due("the second stays", x.get(0, 1, 1), -1);
        check.due("the first to the last", x.copy(0, 1, 3, 59, 1), 1);
        check.due("the last", x.get(3, 1, 59), -1);
        check.due("the one ahead stays", x.get(3, 1, 58), -58);
        check.of("34 copy: s stays as it was");
        FoolVotes y = withRow(2, 1, 2, 3);
        Cantons.layRow(y, 1, 2, 7, 8, 9, 10);
        check.due("copy", y.copy(0, 1, 1, 0, 2), 1);
        row("s", y, 0, 2, 1, 2, 3);
        row("t", y, 1, 2, 2, 3, 9, 10);
    }

    private static void copyOfNone() {
        check.of("34 copy: no items are well up to the end, of SHEETS without items too");
        FoolVotes x = withRow(2, 1, 2, 3);
        x.sheet(1, 2, 0);
        check.due("at the start", x.copy(0, 0, 0, 2, 0), 1);
        check.due("at the end", x.copy(0, 3, 0, 3, 0), 1);
        check.due("to one without items", x.copy(0, 1, 1, 0, 0), 1);
        check.due("from one without items", x.copy(1, 0, 0, 1, 0), 1);
        check.due("of one without items", x.copy(1, 0, 1, 0, 0), 1);
        row("nothing came", x, 0, 2, 1, 2, 3);
        check.due("no FINDING", x.count(8), 0);
        check.due("behind the end", x.copy(0, 4, 0, 0, 0), -12);
        check.due("behind the end", x.copy(0, 0, 0, 4, 0), -12);
        check.due("behind the end", x.copy(1, 1, 0, 0, 0), -12);
    }

    private static void write() {
        check.of("35 write: as many as there are items, and MEASURES: each number of items from 0 to 13, of twelve");
        for (int n = 0; n <= 13; n++) {
            FoolVotes x = Check.canton("s10;s30;s70", "a1;a2;a4;a7;a6;a3;a5;a0;b1;b1;b1;b1");
            x.fool(1, 0);
            x.sheet(0, 2, n);
            for (int i = 0; i < n; i++) {
                x.lay(0, 2, i, 77);
            }
            check.due("write", x.write(0), Math.min(n, 12));
            for (int i = 0; i < n; i++) {
                int want = i < 12 ? x.tally(i, 0) - x.tally(i, 1) : 77;
                check.due("item " + i + " of " + n, x.get(0, 2, i), want);
            }
        }
        check.of("35 write: 0 without MEASURES, or items; no refusal");
        FoolVotes none = Check.canton("s10", "");
        Cantons.layRow(none, 0, 0, 5, 6);
        check.due("no measures", none.write(0), 0);
        row("items stay", none, 0, 0, 5, 6);
        FoolVotes empty = Check.canton("s10", "a1");
        empty.sheet(0, 0, 0);
        check.due("no items", empty.write(0), 0);
        check.due("no FINDING", empty.count(8), 0);
        FoolVotes fault = Check.canton("s10", "a1;");
        fault.sheet(0, 0, 3);
        check.due("a FAULT", fault.write(0), 0);
        check.of("35 write: from 8 to -8, of each FORM; without THE FOOL; 0 where nobody says a word");
        for (int form = 0; form < 3; form++) {
            FoolVotes x = Check.canton("s10;s10;s10;s10;s10;s10;s10;s10", "a1;b6");
            x.fool(1, 9);
            x.sheet(form, form, 60);
            check.due("write", x.write(form), 2);
            row("eight", x, form, form, 8, -8, 0);
            FoolVotes y = Check.canton("", "a1;b6");
            Cantons.layRow(y, form, form, 9, 9, 9);
            check.due("write", y.write(form), 2);
            row("nobody", y, form, form, 0, 0, 9);
        }
        check.of("35 write: MEASURES 0 on, as told, not by their turn");
        FoolVotes turns = Check.canton("s10;s10", "x1;a6");
        turns.sheet(0, 1, 2);
        turns.write(0);
        row("as told", turns, 0, 1, 2, -2);
    }

    private static void count() {
        check.of("36 count: the most of each");
        FoolVotes x = Cantons.full();
        int[] most = {8, 12, 31, 35, 8, -1, -1, 8};
        for (int what = 0; what < 8; what++) {
            if (most[what] >= 0) {
                check.due("count(" + what + ")", x.count(what), most[what]);
            }
        }
        check.due("count(5) is sum(0)", x.count(5), x.sum(0));
        int coats = 0;
        for (int v = 0; v < 8; v++) {
            coats += x.at(v, 2);
        }
        check.due("count(6) is all COATS", x.count(6), coats);
        check.of("36 count: with a FAULT 0 and 1 are 0, 2 and 3 are not, nothing is PASSED, no COAT is turned");
        FoolVotes y = Cantons.faulty();
        int[] want = {0, 0, 8, 7, 1, 0, 0, 1, 0};
        for (int what = 0; what < 9; what++) {
            check.due("count(" + what + ")", y.count(what), want[what]);
        }
    }

    private static long folded(long... each) {
        long h = 17;
        for (long e : each) {
            h = 31 * h + e;
        }
        return h;
    }

    private static void digestOfNothing() {
        check.of("37 digest: of a new object: no part of a MEASURE or a VOTER");
        FoolVotes x = new FoolVotes();
        check.due("digest", x.digest(), folded(0, 0, 0, 0, 0, 0, 0, 0, -1, -1, 0, 0, -1, 0, -1, -1, -1, -1, 0, 0, 0, -1,
            0, 255, -1, x.ages(7, 9, 0), x.ages(7, 9, 1)));
        check.of("37 digest: a FAULT is in it, and the bytes");
        x.type(0, 's');
        x.type(1, 0);
        check.due("digest", x.digest(), folded(0, 0, 1, 1, 0, 0, 0, 0, 1, 0, 0, 0, -1, 0, -1, -1, -1, -1, 0, 0, 0, -1,
            0, 255, -1, x.ages(7, 9, 0), x.ages(7, 9, 1)));
        check.of("37 digest: of one VOTER and one MEASURE, worked out by hand");
        FoolVotes y = Check.canton("s10", "b1");
        check.due("digest", y.digest(), folded(1, 1, 3, 2, 0, 1, 0, 0, -1, -1,
            1, 1, 1, 0, 1, 1, 0, 1, 0, 1, 1, 1,
            0, 1, 0, 1, 0, 0, 0, 255, 7,
            1, 0, -1, 1, -1, -1, -1, -1, 1, 1, 0, -1, 0, 255, 0, y.ages(7, 9, 0), y.ages(7, 9, 1)));
    }

    private static void digestWraps() {
        check.of("37 digest: as longs that wrap: of a full canton, by numbers without end");
        FoolVotes x = Cantons.full();
        java.math.BigInteger h = java.math.BigInteger.valueOf(17);
        for (long e : SheetsTest.partsOfDigest(x)) {
            h = h.multiply(java.math.BigInteger.valueOf(31)).add(java.math.BigInteger.valueOf(e));
        }
        check.isTrue("it is far beyond a long", h.bitLength() > 1000);
        check.due("digest", x.digest(), h.longValue());
        check.due("digest again", x.digest(), h.longValue());
        check.of("37 digest: what is below a chance of eight EVENTS is more than an int, there too");
        FoolVotes y = Check.canton("", "a1");
        for (int e = 0; e < 8; e++) {
            y.event(1, 0, 0);
        }
        check.due("below", y.chance(5, 0, 1), 4294967296L);
        check.due("digest", y.digest(), folded(0, 1, 0, 2, 8, 0, 0, 0, -1, -1,
            0, 1, 0, 0, 2, 0, 0, -1, -1, 214358881L, 4294967296L,
            0, 0, 0, 0, -1, -1, -1, -1, 0, 0, 0, -1, 255, 255, 0, y.ages(7, 9, 0), y.ages(7, 9, 1)));
    }

    private static void digestIs(String name, FoolVotes x) {
        long[] parts = SheetsTest.partsOfDigest(x).stream().mapToLong(e -> e).toArray();
        check.due(name, x.digest(), folded(parts));
    }

    private static void digestParts() {
        check.of("37 digest: ages(7, 9), no other seed, not one MEASURE less or more");
        FoolVotes x = Check.canton("s00;s52", "");
        x.fool(0, 7);
        x.fool(1, 6);
        for (int what = 0; what < 2; what++) {
            int nine = x.ages(7, 9, what);
            int[] others = {x.ages(7, 8, what), x.ages(7, 10, what), x.ages(6, 9, what), x.ages(8, 9, what)};
            for (int other : others) {
                check.isTrue("this canton tells them apart", other != nine);
            }
        }
        digestIs("digest", x);
        check.of("37 digest: spare(0) is the first of two, not the second");
        FoolVotes y = Check.canton("s12;s00;s00", "a1");
        y.event(0, 5, 0);
        y.event(1, 0, 0);
        y.event(1, 0, 0);
        check.due("the first", y.spare(0), 1);
        check.due("the second", y.spare(1), 2);
        digestIs("digest", y);
    }
}
