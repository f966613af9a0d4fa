/**
 * BAD at every number of every call: the least and the greatest that may be are taken, one below, one above and the
 * ends of all ints are BAD, and what is BAD changes nothing.
 */
public final class BoundsTest {
    private static final Check check = new Check();
    private static final int LEAST = Integer.MIN_VALUE, MOST = Integer.MAX_VALUE;

    private static final class Kind {
        final String name;
        final int lastVoter;
        final int lastMeasure;

        Kind(String name, int voters, int measures) {
            this.name = name;
            lastVoter = voters - 1;
            lastMeasure = measures - 1;
        }
    }

    private static final Kind[] KINDS = {
        new Kind("new", 0, 0), new Kind("ordinary", 3, 4), new Kind("full", 8, 12), new Kind("faulty", 0, 0),
    };

    public static void main(String[] args) {
        for (Kind kind : KINDS) {
            texts(kind);
            votes(kind);
            plans(kind);
            seen(kind);
            sheets(kind);
        }
        check.end("BoundsTest");
    }

    private static void texts(Kind k) {
        number(k, "2 type: the text", "type(*, 115)", 0, 1);
        number(k, "2 type: a byte (0 to 255)", "type(0, *)", 0, 255);
        number(k, "2 type: a byte (0 to 255)", "type(1, *)", 0, 255);
        number(k, "3 wipe: the text", "wipe(*)", 0, 1);
        number(k, "4 undo: the text", "undo(*)", 0, 1);
        number(k, "5 fault: the text", "fault(*)", 0, 1);
        number(k, "6 voter: the voter", "voter(*, 0)", 0, k.lastVoter);
        number(k, "6 voter: what", "voter(0, *)", 0, k.lastVoter < 0 ? -1 : 2);
        number(k, "7 measure: the measure", "measure(*, 0)", 0, k.lastMeasure);
        number(k, "7 measure: what", "measure(0, *)", 0, k.lastMeasure < 0 ? -1 : 1);
        number(k, "8 fool: what", "fool(*, 7)", 0, 1);
        number(k, "8 fool: he likes 0 to 7", "fool(0, *)", 0, 7);
        number(k, "8 fool: his weight is 0 to 9", "fool(1, *)", 0, 9);
        number(k, "9 event: the kind", "event(*, 0, 0)", 0, 2);
        number(k, "9 event: the year", "event(0, *, 0)", 0, 23);
        for (int kind = 0; kind < 3; kind++) {
            number(k, "9 event: the number", "event(" + kind + ", 23, *)", 0, 7);
        }
        number(k, "11 read: the sheet", "read(*)", 0, 3);
    }

    private static void votes(Kind k) {
        int asked = k.lastMeasure < 0 ? -1 : k.lastVoter;
        number(k, "12 said: the measure", "said(*, 0)", 0, k.lastVoter < 0 ? -1 : k.lastMeasure);
        number(k, "12 said: the voter", "said(0, *)", 0, asked);
        number(k, "13 tally: the measure", "tally(*, 4)", 0, k.lastMeasure);
        number(k, "13 tally: what", "tally(0, *)", 0, k.lastMeasure < 0 ? -1 : 4);
        number(k, "14 at: the voter", "at(*, 3)", 0, k.lastVoter);
        number(k, "14 at: what", "at(0, *)", 0, k.lastVoter < 0 ? -1 : 3);
        number(k, "15 sum: what", "sum(*)", 0, 1);
    }

    private static void plans(Kind k) {
        number(k, "19 put: the measure", "put(*, 1)", 0, k.lastMeasure);
        number(k, "19 put: what", "put(0, *)", 0, k.lastMeasure < 0 ? -1 : 1);
        number(k, "20 swap: what", "swap(*)", 0, 2);
        number(k, "21 wish: what", "wish(*)", 0, 1);
        number(k, "22 spare: NONE, 0, 1", "spare(*)", -1, 1);
    }

    private static void seen(Kind k) {
        number(k, "23 seen: a measure (0 to 11)", "seen(*, 1)", 0, 11);
        number(k, "23 seen: passed (1), or not (0)", "seen(0, *)", 0, 1);
        number(k, "25 might: what", "might(*)", 0, 1);
        number(k, "26 was: the voter", "was(*, 0)", 0, k.lastVoter);
        number(k, "26 was: what", "was(0, *)", 0, k.lastVoter < 0 ? -1 : 1);
        number(k, "28 chance: c sixteenths (0 to 16)", "chance(*, 0, 1)", 0, k.lastMeasure < 0 ? -1 : 16);
        number(k, "28 chance: the measure", "chance(16, *, 0)", 0, k.lastMeasure);
        number(k, "28 chance: above, below", "chance(0, 0, *)", 0, k.lastMeasure < 0 ? -1 : 1);
        number(k, "29 ages: any seed", "ages(*, 12, 1)", LEAST, MOST);
        number(k, "29 ages: n measures (0 to 12)", "ages(7, *, 0)", 0, 12);
        number(k, "29 ages: what", "ages(7, 9, *)", 0, 1);
    }

    private static void sheets(Kind k) {
        number(k, "30 sheet: the sheet", "sheet(*, 0, 60)", 0, 3);
        number(k, "30 sheet: the form", "sheet(0, *, 60)", 0, 2);
        number(k, "30 sheet: above 60 (below 0 is no BAD)", "sheet(0, 0, *)", LEAST, 60);
        number(k, "31 lose: the sheet", "lose(*)", 0, 3);
        number(k, "32 lay: the sheet", "lay(*, 0, 0, 1)", 0, 3);
        number(k, "32 lay: the form", "lay(0, *, 0, 1)", 0, 2);
        number(k, "32 lay: no item is BAD", "lay(0, 0, *, 1)", LEAST, MOST);
        number(k, "32 lay: any v", "lay(0, 0, 0, *)", LEAST, MOST);
        number(k, "33 get: the sheet", "get(*, 0, 0)", 0, 3);
        number(k, "33 get: the form", "get(0, *, 0)", 0, 2);
        number(k, "33 get: no item is BAD", "get(0, 0, *)", LEAST, MOST);
        number(k, "34 copy: the sheet s", "copy(*, 0, 0, 0, 1)", 0, 3);
        number(k, "34 copy: the sheet t", "copy(0, 0, *, 0, 1)", 0, 3);
        number(k, "34 copy: no item is BAD", "copy(0, *, 1, 0, 0)", LEAST, MOST);
        number(k, "34 copy: no item is BAD", "copy(0, 0, 1, *, 0)", LEAST, MOST);
        number(k, "34 copy: no number of items is BAD", "copy(0, 0, 1, 0, *)", LEAST, MOST);
        number(k, "35 write: the sheet", "write(*)", 0, 3);
        number(k, "36 count: what", "count(*)", 0, 8);
    }

    /** The number that stands for * in the call may be from least to greatest. */
    private static void number(Kind kind, String sentence, String call, int least, int greatest) {
        check.of(sentence + " (" + kind.name + ")");
        if (least <= greatest) {
            isTaken(kind, call, least);
            isTaken(kind, call, greatest);
        } else {
            isBad(kind, call, 0);
        }
        if (least > LEAST) {
            isBad(kind, call, least - 1);
            isBad(kind, call, LEAST);
        }
        if (greatest < MOST) {
            isBad(kind, call, greatest + 1);
            // what the lowest byte or two of would do
            isBad(kind, call, 256);
            isBad(kind, call, 65536);
            isBad(kind, call, MOST);
        }
    }

    /** An answer that a call gives if it is BAD; get() gives it by a FINDING too, which count(8) tells. */
    private static boolean isRefused(FoolVotes x, String call) {
        long answer = Ask.of(x, call);
        if (call.startsWith("get")) {
            return answer == LEAST && x.count(8) == 0;
        }
        return answer == (call.startsWith("chance") ? Long.MIN_VALUE + 2 : FoolVotes.BAD);
    }

    private static void isTaken(Kind kind, String form, int number) {
        String call = form.replace("*", "" + number);
        check.isTrue(call + " is not BAD", !isRefused(Cantons.make(kind.name), call));
    }

    private static void isBad(Kind kind, String form, int number) {
        String call = form.replace("*", "" + number);
        FoolVotes x = Cantons.make(kind.name);
        check.isTrue(call + " is BAD", isRefused(x, call));
        check.due(call + " is no FINDING", x.count(8), 0);
        check.alike(call, x, Cantons.make(kind.name));
    }
}
