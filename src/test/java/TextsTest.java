/** Promises 1 to 10: a new object, texts, voters, measures, the fool, events. */
public final class TextsTest {
    private static final Check check = new Check();

    public static void main(String[] args) {
        newObject();
        type();
        wipeAndUndo();
        faultOfVoters();
        faultOfMeasures();
        faultIsEmpty();
        voter();
        measure();
        fool();
        eventAndBack();
        check.end("TextsTest");
    }

    private static void newObject() {
        FoolVotes x = new FoolVotes();
        for (int what = 0; what <= 8; what++) {
            check.due("new count(" + what + ")", x.count(what), 0);
        }
        check.due("new fault(0)", x.fault(0), FoolVotes.NONE);
        check.due("new fault(1)", x.fault(1), FoolVotes.NONE);
        check.due("new loyal()", x.loyal(), 0);
        check.due("new level()", x.level(), FoolVotes.NONE);
        check.due("new bitter()", x.bitter(), FoolVotes.NONE);
        for (int s = 0; s < 4; s++) {
            check.due("new lose(" + s + ")", x.lose(s), -11);
        }
        check.due("new fool LIKES", x.fool(0, 5), 1);
        check.due("new fool WEIGHT", x.fool(1, 5), 3);
    }

    private static void type() {
        FoolVotes x = new FoolVotes();
        int[][] bad = {{-1, 's'}, {2, 's'}, {0, -1}, {0, 256}, {1, 256}, {1, -1}, {1 << 31, 0}, {0, 1 << 31}};
        for (int[] b : bad) {
            check.due("type bad", x.type(b[0], b[1]), FoolVotes.BAD);
        }
        check.due("type nothing kept", x.count(2) + x.count(3), 0);
        for (int i = 1; i <= 31; i++) {
            check.due("type(0) " + i, x.type(0, i == 1 ? 0 : 255), i);
        }
        check.due("type(0) full", x.type(0, 's'), FoolVotes.FULL);
        check.due("type(0) bad ahead of full", x.type(0, 256), FoolVotes.BAD);
        for (int i = 1; i <= 35; i++) {
            check.due("type(1) " + i, x.type(1, i), i);
        }
        check.due("type(1) full", x.type(1, 's'), FoolVotes.FULL);
        check.due("type count 2", x.count(2), 31);
        check.due("type count 3", x.count(3), 35);
    }

    private static void wipeAndUndo() {
        FoolVotes x = Check.canton("s10;w20", "a1");
        check.due("wipe(-1)", x.wipe(-1), FoolVotes.BAD);
        check.due("wipe(2)", x.wipe(2), FoolVotes.BAD);
        check.due("undo(-1)", x.undo(-1), FoolVotes.BAD);
        check.due("undo(2)", x.undo(2), FoolVotes.BAD);
        check.due("undo(0)", x.undo(0), 6);
        check.due("undo leaves a fault", x.fault(0), 6);
        check.due("undo: no voters then", x.count(0), 0);
        for (int left = 5; left >= 3; left--) {
            check.due("undo(0)", x.undo(0), left);
        }
        check.due("undo: one voter then", x.count(0), 1);
        check.due("undo: votes follow", x.tally(0, 0), 1);
        check.due("wipe(1)", x.wipe(1), 2);
        check.due("wipe: measures", x.count(1), 0);
        check.due("wipe(1) again", x.wipe(1), 0);
        check.due("undo(1) of an empty one", x.undo(1), FoolVotes.NOT);
        check.due("wipe(0)", x.wipe(0), 3);
        check.due("undo(0) of an empty one", x.undo(0), FoolVotes.NOT);
        check.due("type after wipe", x.type(0, 'm'), 1);
    }

    private static void faultOf(int text, String bytes, int want) {
        FoolVotes x = new FoolVotes();
        Check.typeAll(x, text, bytes);
        check.due("fault(" + text + ") of " + bytes, x.fault(text), want);
    }

    private static void faultOfVoters() {
        check.due("fault(-1)", new FoolVotes().fault(-1), FoolVotes.BAD);
        check.due("fault(2)", new FoolVotes().fault(2), FoolVotes.BAD);
        faultOf(0, "", FoolVotes.NONE);
        faultOf(0, "s00", FoolVotes.NONE);
        faultOf(0, "w72", FoolVotes.NONE);
        faultOf(0, "m31;s00;w11", FoolVotes.NONE);
        faultOf(0, "s", 1);
        faultOf(0, "s0", 2);
        faultOf(0, "s00;", 4);
        faultOf(0, "s00;w", 5);
        faultOf(0, "a00", 0);
        faultOf(0, "S00", 0);
        faultOf(0, ";", 0);
        faultOf(0, "s80", 1);
        faultOf(0, "s/0", 1);
        faultOf(0, "s03", 2);
        faultOf(0, "s0/", 2);
        faultOf(0, "s00s00", 3);
        faultOf(0, "s00,s00", 3);
        faultOf(0, "s00;;", 4);
        faultOf(0, "s00;t00;s90", 4);
        faultOf(0, "s00;s00;s00;s00;s00;s00;s00;m72", FoolVotes.NONE);
        faultOf(0, "s00;s00;s00;s00;s00;s00;s00;m73", 30);
    }

    private static void faultOfMeasures() {
        faultOf(1, "", FoolVotes.NONE);
        faultOf(1, "a0", FoolVotes.NONE);
        faultOf(1, "x7", FoolVotes.NONE);
        faultOf(1, "x7;a0;m3", FoolVotes.NONE);
        faultOf(1, "a", 1);
        faultOf(1, "a0;", 3);
        faultOf(1, "a0;b", 4);
        faultOf(1, "y0", 0);
        faultOf(1, "`0", 0);
        faultOf(1, "A0", 0);
        faultOf(1, "a8", 1);
        faultOf(1, "a/", 1);
        faultOf(1, "a00", 2);
        faultOf(1, "a0;;", 3);
        faultOf(1, "a0;a0;a0;a0;a0;a0;a0;a0;a0;a0;a0;x7", FoolVotes.NONE);
        faultOf(1, "a0;a0;a0;a0;a0;a0;a0;a0;a0;a0;a0;xx", 34);
    }

    private static void faultIsEmpty() {
        FoolVotes x = Check.canton("s10;", "a1;b");
        check.due("faulty voters", x.count(0), 0);
        check.due("faulty measures", x.count(1), 0);
        check.due("faulty bytes", x.count(2), 4);
        check.due("faulty bytes", x.count(3), 4);
        check.due("faulty voter", x.voter(0, 0), FoolVotes.BAD);
        check.due("faulty measure", x.measure(0, 0), FoolVotes.BAD);
        x.undo(0);
        x.undo(1);
        x.undo(1);
        check.due("mended voters", x.count(0), 1);
        check.due("mended measures", x.count(1), 1);
    }

    private static void voter() {
        FoolVotes x = Check.canton("s12;w70;m01", "");
        int[][] want = {{0, 1, 2}, {1, 7, 0}, {2, 0, 1}};
        for (int v = 0; v < 3; v++) {
            for (int what = 0; what < 3; what++) {
                check.due("voter(" + v + ", " + what + ")", x.voter(v, what), want[v][what]);
            }
        }
        check.due("voter(3, 0)", x.voter(3, 0), FoolVotes.BAD);
        check.due("voter(-1, 0)", x.voter(-1, 0), FoolVotes.BAD);
        check.due("voter(0, 3)", x.voter(0, 3), FoolVotes.BAD);
        check.due("voter(0, -1)", x.voter(0, -1), FoolVotes.BAD);
        // as told, not as he is at the end
        FoolVotes turned = Check.canton("s12", "a0;a1");
        turned.fool(0, 0);
        check.due("at the end he turned", turned.at(0, 2), 0);
        turned = Check.canton("s12", "a1");
        turned.fool(0, 0);
        check.due("at the end he turned", turned.at(0, 2), 1);
        check.due("voter LIKES as told", turned.voter(0, 1), 1);
        check.due("voter GRUDGE as told", turned.voter(0, 2), 2);
    }

    private static void measure() {
        FoolVotes x = Check.canton("", "x7;a0;m3");
        int[][] want = {{23, 7}, {0, 0}, {12, 3}};
        for (int m = 0; m < 3; m++) {
            check.due("measure(" + m + ", 0)", x.measure(m, 0), want[m][0]);
            check.due("measure(" + m + ", 1)", x.measure(m, 1), want[m][1]);
        }
        x.event(0, 0, 0);
        check.due("measure() with a dog is as told", x.measure(1, 1), 0);
        check.due("measure(3, 0)", x.measure(3, 0), FoolVotes.BAD);
        check.due("measure(-1, 0)", x.measure(-1, 0), FoolVotes.BAD);
        check.due("measure(0, 2)", x.measure(0, 2), FoolVotes.BAD);
        check.due("measure(0, -1)", x.measure(0, -1), FoolVotes.BAD);
    }

    private static void fool() {
        FoolVotes x = Check.canton("", "a6");
        int[][] bad = {{-1, 0}, {2, 0}, {0, -1}, {0, 8}, {1, -1}, {1, 10}};
        for (int[] b : bad) {
            check.due("fool bad", x.fool(b[0], b[1]), FoolVotes.BAD);
        }
        check.due("fool against it", x.tally(0, 3), 0);
        check.due("fool(0, 7)", x.fool(0, 7), 1);
        check.due("fool for it", x.tally(0, 3), 1);
        check.due("fool(1, 9)", x.fool(1, 9), 3);
        check.due("fool(1, 0)", x.fool(1, 0), 9);
        check.due("fool without weight", x.tally(0, 3), 0);
        check.due("fool(1, 8)", x.fool(1, 8), 0);
        check.due("fool(0, 0)", x.fool(0, 0), 7);
        check.due("fool(0, 0) again", x.fool(0, 0), 0);
    }

    private static void eventAndBack() {
        FoolVotes x = Check.canton("s10", "a1");
        int[][] bad = {{-1, 0, 0}, {3, 0, 0}, {0, -1, 0}, {0, 24, 0}, {1, 0, -1}, {1, 0, 8}};
        for (int[] b : bad) {
            check.due("event bad", x.event(b[0], b[1], b[2]), FoolVotes.BAD);
        }
        check.due("back of none", x.back(), FoolVotes.NOT);
        check.due("event(2, 0, 0)", x.event(2, 0, 0), 1);
        check.due("hushed", x.said(0, 0), 2);
        check.due("event(1, 0, 7)", x.event(1, 0, 7), 2);
        check.due("apple, whatever number", x.tally(0, 2), 2);
        check.due("back", x.back(), 1);
        check.due("no apple", x.tally(0, 2), 1);
        for (int n = 2; n <= 8; n++) {
            check.due("event " + n, x.event(n % 3, 23, 7), n);
        }
        check.due("event full", x.event(0, 0, 0), FoolVotes.FULL);
        check.due("event bad ahead of full", x.event(0, 0, 8), FoolVotes.BAD);
        check.due("count events", x.count(4), 8);
        for (int n = 7; n >= 0; n--) {
            check.due("back " + n, x.back(), n);
        }
        check.due("back of none", x.back(), FoolVotes.NOT);
        check.due("no hush", x.said(0, 0), 1);
    }
}
