/** Edges of the two texts: their lengths, their FAULT, and what is as if they were empty; promises 1 to 7. */
public final class TextEdgesTest {
    private static final Check check = new Check();
    private static final int NONE = FoolVotes.NONE, BAD = FoolVotes.BAD, FULL = FoolVotes.FULL, NOT = FoolVotes.NOT;
    private static final int[] LENGTH = {31, 35};
    private static final int[] STEP = {4, 3};
    /** What may stand at each place of a VOTER and of a MEASURE. */
    private static final String[][] MAY = {
        {"swm", "01234567", "012", ";"}, {"abcdefghijklmnopqrstuvwx", "01234567", ";"},
    };
    private static final String[] WELL = {Cantons.EIGHT, Cantons.TWELVE};

    public static void main(String[] args) {
        newObject();
        for (int text = 0; text < 2; text++) {
            length(text);
            everyByte(text);
            notEnded(text);
            theFirstFault(text);
            asIfEmpty(text);
            wipe(text);
            undo(text);
        }
        mostVoters();
        mostMeasures();
        voterAsTold();
        measureAsTold();
        check.end("TextEdgesTest");
    }

    private static void newObject() {
        check.of("1: no VOTERS, no MEASURES, no EVENTS");
        FoolVotes x = new FoolVotes();
        for (int what = 0; what <= 8; what++) {
            check.due("count(" + what + ")", x.count(what), 0);
        }
        for (String call : new String[] {"voter(0, 0)", "measure(0, 0)", "said(0, 0)", "tally(0, 0)", "at(0, 0)"}) {
            check.due(x, call, BAD);
        }
        check.due(x, "back()", NOT);
        check.due(x, "undo(0)", NOT);
        check.due(x, "undo(1)", NOT);
        check.of("1: THE FOOL LIKES 1");
        check.due(new FoolVotes(), "fool(0, 1)", 1);
        check.due("and is for a dog", Check.canton("", "a1").tally(0, 2), 1);
        check.due("and for nothing else", Check.canton("", "a2;a4").sum(0), 0);
        check.of("1: his WEIGHT is 3");
        check.due(new FoolVotes(), "fool(1, 3)", 3);
        check.due("two noes are less", Check.canton("s00;s00", "a1").tally(0, 3), 1);
        check.due("three noes are as many", Check.canton("s00;s00;s00", "a1").tally(0, 3), 0);
        check.of("1: all SHEETS are LOST");
        for (int s = 0; s < 4; s++) {
            check.due(new FoolVotes(), "lose(" + s + ")", -11);
        }
        check.of("1: an object holds nothing of another one");
        FoolVotes other = Cantons.full();
        other.lose(0);
        check.alike("a new one beside a full one", new FoolVotes(), new FoolVotes());
        check.due("SEEN", new FoolVotes().forget(), 0);
        check.due("FINDING", new FoolVotes().count(8), 0);
    }

    private static void length(int text) {
        check.of("2 type: text " + text + " is of up to " + LENGTH[text] + " bytes: how many");
        FoolVotes x = new FoolVotes();
        for (int n = 1; n <= LENGTH[text]; n++) {
            check.due("type(" + text + ")", x.type(text, 255 - n), n);
        }
        check.due("one more", x.type(text, 's'), FULL);
        check.due("count", x.count(2 + text), LENGTH[text]);
        check.due("the other text's", x.count(3 - text), 0);
        check.of("2 type: text " + text + " that was FULL takes a byte, once one is undone");
        check.due("undo", x.undo(text), LENGTH[text] - 1);
        check.due("type", x.type(text, 0), LENGTH[text]);
        check.due("FULL again", x.type(text, 0), FULL);
        check.of("2 type: a byte that is a FAULT is taken too, 0 and 255 as well");
        FoolVotes y = new FoolVotes();
        check.due("type 0", y.type(text, 0), 1);
        check.due("type 255", y.type(text, 255), 2);
        check.due("fault", y.fault(text), 0);
    }

    private static void everyByte(int text) {
        check.of("5 fault: the first byte with which text " + text + " cannot go on, each byte at each place");
        for (int place = 0; place < LENGTH[text]; place++) {
            for (int b = 0; b < 256; b++) {
                FoolVotes x = new FoolVotes();
                Check.typeAll(x, text, WELL[text].substring(0, place));
                x.type(text, b);
                int inItem = place % STEP[text];
                boolean may = MAY[text][inItem].indexOf(b) >= 0;
                boolean ended = inItem == STEP[text] - 2;
                int want = !may ? place : ended ? NONE : place + 1;
                check.due("fault with " + b + " at " + place, x.fault(text), want);
                check.due("how many with " + b + " at " + place, x.count(text), want == NONE ? place / STEP[text] + 1 : 0);
            }
        }
    }

    private static void notEnded(int text) {
        check.of("5 fault: an empty text " + text + " is well");
        FoolVotes x = new FoolVotes();
        check.due("fault", x.fault(text), NONE);
        check.of("5 fault: of a text " + text + " that is not ended, its end; NONE of one that is");
        for (int n = 1; n <= LENGTH[text]; n++) {
            x.type(text, WELL[text].charAt(n - 1));
            boolean ended = n % STEP[text] == STEP[text] - 1;
            check.due("fault of " + n + " bytes", x.fault(text), ended ? NONE : n);
            check.due("items of " + n + " bytes", x.count(text), ended ? (n + 1) / STEP[text] : 0);
        }
        check.of("5 fault: and back, byte by byte");
        for (int n = LENGTH[text] - 1; n >= 0; n--) {
            x.undo(text);
            boolean ended = n == 0 || n % STEP[text] == STEP[text] - 1;
            check.due("fault of " + n + " bytes", x.fault(text), ended ? NONE : n);
        }
    }

    private static void theFirstFault(int text) {
        check.of("5 fault: the first, whatever comes behind, in text " + text);
        for (int place = 0; place < LENGTH[text]; place++) {
            FoolVotes x = new FoolVotes();
            for (int i = 0; i < LENGTH[text]; i++) {
                boolean wrong = i == place || i > place && (i - place) % 3 == 0;
                x.type(text, wrong ? '?' : WELL[text].charAt(i));
                if (i >= place) {
                    check.due("fault at " + place + " of " + (i + 1), x.fault(text), place);
                }
            }
        }
        check.of("5 fault: of text " + text + " alone");
        FoolVotes y = new FoolVotes();
        y.type(text, '?');
        check.due("its own", y.fault(text), 0);
        check.due("the other's", y.fault(1 - text), NONE);
    }

    private static FoolVotes withBoth(String voters, String measures) {
        FoolVotes x = Check.canton(voters, measures);
        x.event(1, 0, 0);
        x.event(2, 1, 1);
        x.seen(0, 1);
        x.sheet(0, 0, 12);
        return x;
    }

    private static void asIfEmpty(int text) {
        check.of("with a FAULT text " + text + " is as if it was empty");
        String[] faulty = text == 0
            ? new String[] {"s12;w60;", "s", "s12;w60;m", "?12;w60", "s12;w63", "s12,w60", "s12;;w60", "s12w60"}
            : new String[] {"a1;c6;", "a", "a1;c6;b", "?1;c6", "a1;c8", "a1,c6", "a1;;c6", "a1c6"};
        for (String bytes : faulty) {
            FoolVotes x = text == 0 ? withBoth(bytes, "a1;b6") : withBoth("s12;w60", bytes);
            FoolVotes y = text == 0 ? withBoth("", "a1;b6") : withBoth("s12;w60", "");
            check.due("bytes of " + bytes, x.count(2 + text), bytes.length());
            check.due("items of " + bytes, x.count(text), 0);
            check.due("first item of " + bytes, text == 0 ? x.voter(0, 0) : x.measure(0, 0), BAD);
            // the bytes themselves are there all the same
            check.alikeBut(bytes, x, y, "count(" + (2 + text) + ")", "fault(" + text + ")", "digest");
        }
        check.of("when the FAULT is undone text " + text + " is what it was");
        FoolVotes mended = withBoth("s12;w60", "a1;b6");
        mended.type(text, ';');
        check.due("items with a FAULT", mended.count(text), 0);
        mended.undo(text);
        check.alike("mended", mended, withBoth("s12;w60", "a1;b6"));
    }

    private static void wipe(int text) {
        check.of("3 wipe: text " + text + " is empty: how many bytes it had");
        FoolVotes x = Check.canton(WELL[0], WELL[1]);
        check.due("wipe of a full one", x.wipe(text), LENGTH[text]);
        check.due("bytes", x.count(2 + text), 0);
        check.due("items", x.count(text), 0);
        check.due("the other text stays", x.count(3 - text), LENGTH[1 - text]);
        check.due("the other's items stay", x.count(1 - text), text == 0 ? 12 : 8);
        check.of("3 wipe: an empty text " + text + " had 0, and that is no refusal");
        check.due("wipe again", x.wipe(text), 0);
        check.due("wipe of a new one", new FoolVotes().wipe(text), 0);
        check.of("3 wipe: a text " + text + " with a FAULT had all its bytes");
        FoolVotes y = Check.canton("s12;?", "a1;?");
        check.due("wipe", y.wipe(text), text == 0 ? 5 : 4);
        check.due("fault", y.fault(text), NONE);
        check.of("3 wipe: after it text " + text + " has all its room");
        for (int n = 1; n <= LENGTH[text]; n++) {
            check.due("type", x.type(text, WELL[text].charAt(n - 1)), n);
        }
        check.due("FULL", x.type(text, ';'), FULL);
        check.alike("as told at first", x, Check.canton(WELL[0], WELL[1]));
    }

    private static void undo(int text) {
        check.of("4 undo: how many are left of text " + text + ", down to 0; then NOT");
        FoolVotes x = Check.canton(WELL[0], WELL[1]);
        for (int left = LENGTH[text] - 1; left >= 0; left--) {
            check.due("undo", x.undo(text), left);
        }
        check.due("undo of an empty one", x.undo(text), NOT);
        check.due("bytes", x.count(2 + text), 0);
        check.due("the other text stays", x.count(3 - text), LENGTH[1 - text]);
        check.of("4 undo: the last byte alone of text " + text + " is undone");
        FoolVotes y = Check.canton("s12;w61", "a1;b6");
        y.undo(text);
        y.type(text, text == 0 ? '2' : '7');
        check.alike("another last byte", y, Check.canton(text == 0 ? "s12;w62" : "s12;w61", text == 0 ? "a1;b6" : "a1;b7"));
    }

    private static void mostVoters() {
        check.of("VOTERS are 8 at most: eight are well, a ninth has no room to begin");
        FoolVotes x = Check.canton(Cantons.EIGHT, "");
        check.due("VOTERS", x.count(0), 8);
        check.due("fault", x.fault(0), NONE);
        check.due("; of a ninth", x.type(0, ';'), FULL);
        check.due("VOTERS still", x.count(0), 8);
        check.due("fault still", x.fault(0), NONE);
        check.due("the last one", x.voter(7, 1), 7);
        check.due("no ninth one", x.voter(8, 1), BAD);
    }

    private static void mostMeasures() {
        check.of("MEASURES are 12 at most: twelve are well, a thirteenth has no room to begin");
        FoolVotes x = Check.canton("", Cantons.TWELVE);
        check.due("MEASURES", x.count(1), 12);
        check.due("fault", x.fault(1), NONE);
        check.due("; of a thirteenth", x.type(1, ';'), FULL);
        check.due("MEASURES still", x.count(1), 12);
        check.due("fault still", x.fault(1), NONE);
        check.due("the last one", x.measure(11, 0), 22);
        check.due("no thirteenth one", x.measure(12, 0), BAD);
    }

    private static void voterAsTold() {
        check.of("6 voter: every sort, what he LIKES 0 to 7, GRUDGE 0 to 2, first and last of eight");
        for (int sort = 0; sort < 3; sort++) {
            for (int likes = 0; likes < 8; likes++) {
                for (int grudge = 0; grudge < 3; grudge++) {
                    String one = "" + "swm".charAt(sort) + likes + grudge;
                    FoolVotes x = Check.canton(one + Cantons.EIGHT.substring(3), "a1");
                    FoolVotes y = Check.canton(Cantons.EIGHT.substring(0, 28) + one, "a1");
                    int[] want = {sort, likes, grudge};
                    for (int what = 0; what < 3; what++) {
                        check.due(one + " as the first: " + what, x.voter(0, what), want[what]);
                        check.due(one + " as the last: " + what, y.voter(7, what), want[what]);
                    }
                }
            }
        }
        check.of("6 voter: as told, not as he is at the end");
        FoolVotes turned = Check.canton("s12", "a1");
        turned.fool(0, 0);
        check.due("LIKES at the end", turned.at(0, 0), 6);
        check.due("LIKES as told", turned.voter(0, 1), 1);
        check.due("GRUDGE at the end", turned.at(0, 1), 0);
        check.due("GRUDGE as told", turned.voter(0, 2), 2);
    }

    private static void measureAsTold() {
        check.of("7 measure: every YEAR 0 to 23, TRAITS 0 to 7, first and last of twelve");
        for (int year = 0; year < 24; year++) {
            for (int traits = 0; traits < 8; traits++) {
                String one = "" + (char) ('a' + year) + traits;
                FoolVotes x = Check.canton("", one + Cantons.TWELVE.substring(2));
                FoolVotes y = Check.canton("", Cantons.TWELVE.substring(0, 33) + one);
                check.due(one + " as the first: YEAR", x.measure(0, 0), year);
                check.due(one + " as the first: TRAITS", x.measure(0, 1), traits);
                check.due(one + " as the last: YEAR", y.measure(11, 0), year);
                check.due(one + " as the last: TRAITS", y.measure(11, 1), traits);
            }
        }
        check.of("7 measure: as told, without the DOG");
        FoolVotes dog = Check.canton("", "a6;x0");
        dog.event(0, 0, 0);
        dog.event(0, 23, 7);
        check.due("TRAITS in year 0", dog.measure(0, 1), 6);
        check.due("TRAITS in year 23", dog.measure(1, 1), 0);
    }
}
