/** Promises 11 and 30 to 37: sheets, what is read and written, counts, the digest. */
public final class SheetsTest {
    private static final Check check = new Check();
    private static final int LEAST = Integer.MIN_VALUE;

    public static void main(String[] args) {
        sheetAndLose();
        layAndGet();
        refusedItems();
        copy();
        copyRefused();
        read();
        readStops();
        write();
        count();
        digest();
        digestFollowsTheDocument();
        check.end("SheetsTest");
    }

    private static void sheetAndLose() {
        FoolVotes x = new FoolVotes();
        int[][] bad = {{-1, 0, 0}, {4, 0, 0}, {0, -1, 0}, {0, 3, 0}, {0, 0, 61}, {4, 0, -1}, {0, 3, -1}};
        for (int[] b : bad) {
            check.due("sheet bad", x.sheet(b[0], b[1], b[2]), FoolVotes.BAD);
        }
        check.due("no finding by BAD", x.count(8), 0);
        check.due("sheet(0, 0, -1)", x.sheet(0, 0, -1), -15);
        check.due("SIZE", x.count(8), 5);
        check.due("still lost", x.lose(0), -11);
        check.due("NULL", x.count(8), 1);
        check.due("sheet(3, 2, 60)", x.sheet(3, 2, 60), 60);
        check.due("sheet(0, 1, 0)", x.sheet(0, 1, 0), 0);
        check.due("lay", x.lay(3, 2, 59, 9), 1);
        check.due("lay", x.lay(3, 2, 0, 9), 1);
        check.due("SIZE changes nothing", x.sheet(3, 0, LEAST), -15);
        check.due("as it was", x.get(3, 2, 59), 9);
        check.due("a new row", x.sheet(3, 2, 60), 60);
        check.due("0 at first", x.get(3, 2, 59), 0);
        check.due("0 at first", x.get(3, 2, 0), 0);
        check.due("lose(3)", x.lose(3), 60);
        check.due("lose(0)", x.lose(0), 0);
        check.due("lose(0) again", x.lose(0), -11);
        check.due("lose(4)", x.lose(4), FoolVotes.BAD);
        check.due("lose(-1)", x.lose(-1), FoolVotes.BAD);
    }

    private static void layAndGet() {
        FoolVotes x = new FoolVotes();
        int[] values = {0, 1, -1, 127, 128, 255, 256, 32767, 32768, 65535, 65536, LEAST, Integer.MAX_VALUE};
        for (int form = 0; form < 3; form++) {
            x.sheet(form, form, 13);
            for (int i = 0; i < 13; i++) {
                check.due("lay", x.lay(form, form, i, values[i]), 1);
            }
            for (int i = 0; i < 13; i++) {
                int want = form == 0 ? (byte) values[i] : form == 1 ? (short) values[i] : values[i];
                check.due("get(" + form + ", " + i + ")", x.get(form, form, i), want);
            }
        }
    }

    private static void refusedItems() {
        FoolVotes x = new FoolVotes();
        x.sheet(1, 1, 3);
        int[][] calls = {
            {-1, 0, 0, -2, 0}, {4, 0, 0, -2, 0}, {1, -1, 0, -2, 0}, {1, 3, 0, -2, 0}, {0, 3, 0, -2, 0},
            {0, 0, 0, -11, 1}, {1, 0, 0, -13, 3}, {1, 2, 9, -13, 3}, {1, 1, 3, -12, 2}, {1, 1, -1, -12, 2},
            {1, 1, LEAST, -12, 2},
        };
        int latest = 0;
        for (int[] c : calls) {
            latest = c[4] == 0 ? latest : c[4];
            check.due("lay", x.lay(c[0], c[1], c[2], 5), c[3]);
            check.due("lay's finding", x.count(8), latest);
        }
        for (int[] c : calls) {
            latest = c[4] == 0 ? latest : c[4];
            check.due("get", x.get(c[0], c[1], c[2]), LEAST);
            check.due("get's finding", x.count(8), latest);
        }
        check.due("lay well", x.lay(1, 1, 0, 5), 1);
        check.due("get well", x.get(1, 1, 0), 5);
        check.due("the latest finding stays", x.count(8), 2);
    }

    private static void row(String name, FoolVotes x, int s, int form, int... want) {
        for (int i = 0; i < want.length; i++) {
            check.due(name + ": item " + i, x.get(s, form, i), want[i]);
        }
        check.due(name + ": no more", x.get(s, form, want.length), LEAST);
    }

    private static FoolVotes withRow(int s, int form, int... items) {
        FoolVotes x = new FoolVotes();
        lay(x, s, form, items);
        return x;
    }

    private static void lay(FoolVotes x, int s, int form, int... items) {
        x.sheet(s, form, items.length);
        for (int i = 0; i < items.length; i++) {
            x.lay(s, form, i, items[i]);
        }
    }

    private static void copy() {
        FoolVotes x = withRow(0, 1, 1, 2, 3, 4, 5);
        check.due("forward over itself", x.copy(0, 0, 0, 1, 4), 1);
        row("as they were", x, 0, 1, 1, 1, 2, 3, 4);
        x = withRow(0, 1, 1, 2, 3, 4, 5);
        check.due("back over itself", x.copy(0, 1, 0, 0, 4), 1);
        row("as they were", x, 0, 1, 2, 3, 4, 5, 5);
        lay(x, 3, 1, 9, 9);
        check.due("to another", x.copy(0, 3, 3, 1, 1), 1);
        row("other", x, 3, 1, 9, 5);
        row("its own stays", x, 0, 1, 2, 3, 4, 5, 5);
        check.due("none, at the ends", x.copy(0, 5, 3, 2, 0), 1);
        check.due("all", x.copy(3, 0, 0, 3, 2), 1);
        row("all", x, 0, 1, 2, 3, 4, 9, 5);
    }

    private static void copyRefused() {
        FoolVotes x = withRow(0, 1, 1, 2, 3);
        lay(x, 1, 1, 7, 8);
        lay(x, 2, 2, 4, 4, 4);
        int[][] calls = {
            {-1, 0, 1, 0, 1, -2, 0}, {4, 0, 1, 0, 1, -2, 0}, {0, 0, -1, 0, 1, -2, 0}, {3, 0, 4, 0, 1, -2, 0},
            {3, 0, 1, 0, 1, -11, 1}, {0, 0, 3, 0, 1, -11, 1}, {3, -1, 2, 0, 1, -11, 1},
            {0, 0, 2, 0, 1, -14, 4}, {0, -1, 2, 0, 0, -14, 4},
            {0, -1, 1, 0, 1, -12, 2}, {0, 0, 1, -1, 1, -12, 2}, {0, 0, 1, 0, -1, -12, 2}, {0, 0, 1, 0, 3, -12, 2},
            {0, 2, 1, 0, 2, -12, 2}, {0, 0, 1, 1, 2, -12, 2}, {0, 4, 1, 0, 0, -12, 2}, {0, 0, 1, 3, 0, -12, 2},
            {0, 1, 1, 0, Integer.MAX_VALUE, -12, 2}, {0, Integer.MAX_VALUE, 1, 0, 1, -12, 2},
            {0, LEAST, 1, 0, LEAST, -12, 2},
        };
        int latest = 0;
        for (int[] c : calls) {
            latest = c[6] == 0 ? latest : c[6];
            check.due("copy", x.copy(c[0], c[1], c[2], c[3], c[4]), c[5]);
            check.due("copy's finding", x.count(8), latest);
        }
        row("s as it was", x, 0, 1, 1, 2, 3);
        row("t as it was", x, 1, 1, 7, 8);
        row("u as it was", x, 2, 2, 4, 4, 4);
    }

    private static void read() {
        FoolVotes x = Check.canton("s10;s10", "a1;b1");
        check.due("read(-1)", x.read(-1), FoolVotes.BAD);
        check.due("read(4)", x.read(4), FoolVotes.BAD);
        check.due("read of a lost one", x.read(0), -11);
        check.due("its finding", x.count(8), 1);
        lay(x, 0, 0, 1, 0, 0, 2, 1, 1, 2, 1);
        check.due("two whole ones", x.read(0), 2);
        check.due("events", x.count(4), 2);
        check.due("the apple", x.tally(0, 2), 2);
        check.due("the hush", x.said(1, 1), 2);
        check.due("two more", x.read(0), 2);
        check.due("events, behind those told", x.count(4), 4);
        x.sheet(1, 2, 2);
        check.due("none is whole", x.read(1), 0);
        x.sheet(1, 2, 3);
        check.due("just one", x.read(1), 1);
        check.due("back", x.back(), 4);
        x.sheet(1, 2, 0);
        check.due("none is there", x.read(1), 0);
        check.due("back", x.back(), 3);
    }

    private static void readStops() {
        FoolVotes x = new FoolVotes();
        lay(x, 0, 2, 0, 0, 0, 3, 0, 0, 0, 0, 0);
        check.due("a kind that is not", x.read(0), 1);
        lay(x, 0, 2, 0, 0, 0, 0, 24, 0, 0, 0, 0);
        check.due("a year that is not", x.read(0), 1);
        lay(x, 0, 2, 0, 0, 0, 0, 0, 8, 0, 0, 0);
        check.due("a number that is not", x.read(0), 1);
        lay(x, 0, 0, -1, 0, 0, 0, 0, 0);
        check.due("below 0", x.read(0), 0);
        x.sheet(3, 1, 60);
        check.due("until it is full", x.read(3), 5);
        check.due("events", x.count(4), 8);
        check.due("full", x.read(3), 0);
        check.due("no finding", x.count(8), 0);
    }

    private static void write() {
        FoolVotes x = Check.canton("s10;s10;s20", "b1;a2;c3");
        check.due("write(-1)", x.write(-1), FoolVotes.BAD);
        check.due("write(4)", x.write(4), FoolVotes.BAD);
        check.due("write to a lost one", x.write(2), -11);
        check.due("its finding", x.count(8), 1);
        for (int form = 0; form < 3; form++) {
            lay(x, form, form, 9, 9, 9, 9);
            check.due("write", x.write(form), 3);
            row("more items", x, form, form, 1, -1, -3, 9);
        }
        x.sheet(3, 0, 2);
        check.due("write to a short one", x.write(3), 2);
        row("fewer items", x, 3, 0, 1, -1);
        x.sheet(3, 0, 0);
        check.due("write to none", x.write(3), 0);
        x.wipe(1);
        check.due("write no measures", x.write(0), 0);
    }

    private static void count() {
        FoolVotes x = Check.canton("s12;w20", "a1;b4;c0");
        x.fool(0, 4);
        x.event(1, 9, 9 - 2);
        x.seen(0, 1);
        x.seen(0, 0);
        x.lose(0);
        // a1: s aye, w aye, the fool (4) no by 3: s turns to 6; b4: s aye, w aye, fool aye; c0: all no
        int[] want = {2, 3, 7, 8, 1, 1, 1, 2, 1};
        for (int what = 0; what < 9; what++) {
            check.due("count(" + what + ")", x.count(what), want[what]);
        }
        check.due("count(9)", x.count(9), FoolVotes.BAD);
        check.due("count(-1)", x.count(-1), FoolVotes.BAD);
    }

    private static void digest() {
        // 17, eight counts 0, two faults -1, sums 0 0, level -1, loyal 0, bitter -1, swap -1 thrice, wish 0 0,
        // spare 0 -1, might 0 255, ask -1, and the ages of the fool alone
        FoolVotes x = new FoolVotes();
        long[] each = {
            0, 0, 0, 0, 0, 0, 0, 0, -1, -1, 0, 0, -1, 0, -1, -1, -1, -1, 0, 0, 0, -1, 0, 255, -1,
            x.ages(7, 9, 0), x.ages(7, 9, 1),
        };
        long h = 17;
        for (long e : each) {
            h = 31 * h + e;
        }
        check.due("digest of a new one", x.digest(), h);
        x.lose(0);
        check.due("a finding is not in it", x.digest(), h);
        x.sheet(0, 0, 1);
        check.due("a sheet is not in it", x.digest(), h);
    }

    private static void digestFollowsTheDocument() {
        FoolVotes x = Check.canton("s12;w20;m61;s71", "a1;b4;c0;a7;x3");
        x.event(1, 1, 0);
        x.event(0, 2, 0);
        x.event(2, 0, 2);
        x.seen(0, 1);
        x.seen(3, 0);
        check.due("digest", x.digest(), digestOf(x));
        x.type(0, ';');
        check.due("digest of a fault", x.digest(), digestOf(x));
        FoolVotes idle = Check.canton("s12;w20", "");
        check.due("digest of voters alone", idle.digest(), digestOf(idle));
        FoolVotes turned = Check.canton("s12;s21;s41;s72;m10", "a1;a2;b4;c7;d6");
        turned.fool(0, 0);
        turned.fool(1, 9);
        turned.event(1, 7, 0);
        turned.event(2, 0, 4);
        check.due("digest with coats", turned.digest(), digestOf(turned));
        FoolVotes spared = Check.canton("s12;s00;s00", "a1;b1");
        spared.event(0, 5, 0);
        spared.event(1, 0, 0);
        check.due("one is to be spared", spared.spare(0), 1);
        check.due("digest with a spared one", spared.digest(), digestOf(spared));
    }

    private static long digestOf(FoolVotes x) {
        long h = 17;
        for (long e : partsOfDigest(x)) {
            h = 31 * h + e;
        }
        return h;
    }

    /** What comes into the digest, in the document's order. */
    static java.util.List<Long> partsOfDigest(FoolVotes x) {
        java.util.List<Long> each = new java.util.ArrayList<>();
        for (int what = 0; what <= 7; what++) {
            each.add((long) x.count(what));
        }
        each.add((long) x.fault(0));
        each.add((long) x.fault(1));
        for (int m = 0; m < x.count(1); m++) {
            each.add((long) x.measure(m, 0));
            each.add((long) x.measure(m, 1));
            for (int what = 0; what <= 4; what++) {
                each.add((long) x.tally(m, what));
            }
            each.add((long) x.put(m, 0));
            each.add((long) x.put(m, 1));
            each.add(x.chance(5, m, 0));
            each.add(x.chance(5, m, 1));
            for (int v = 0; v < x.count(0); v++) {
                each.add((long) x.said(m, v));
            }
        }
        for (int v = 0; v < x.count(0); v++) {
            for (int what = 0; what <= 2; what++) {
                each.add((long) x.voter(v, what));
            }
            for (int what = 0; what <= 3; what++) {
                each.add((long) x.at(v, what));
            }
            each.add((long) x.was(v, 0));
            each.add((long) x.was(v, 1));
        }
        int[] last = {
            x.sum(0), x.sum(1), x.level(), x.loyal(), x.bitter(), x.swap(0), x.swap(1), x.swap(2), x.wish(0), x.wish(1),
            x.spare(-1), x.spare(0), x.might(0), x.might(1), x.ask(), x.ages(7, 9, 0), x.ages(7, 9, 1),
        };
        for (int e : last) {
            each.add((long) e);
        }
        return each;
    }
}
