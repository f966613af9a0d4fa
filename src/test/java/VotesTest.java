/** Promises 12 to 18: who says what, what is passed, grudges and coats. */
public final class VotesTest {
    private static final Check check = new Check();

    public static void main(String[] args) {
        forMeasures();
        sorts();
        turnsByYears();
        dogAppleHush();
        tally();
        grudges();
        coats();
        sums();
        level();
        loyalAndBitter();
        refusals();
        check.end("VotesTest");
    }

    private static int bits(int of) {
        return Integer.bitCount(of);
    }

    private static void forMeasures() {
        for (int likes = 0; likes < 8; likes++) {
            for (int traits = 0; traits < 8; traits++) {
                FoolVotes x = Check.canton("s" + likes + "0", "a" + traits);
                x.fool(0, likes);
                int want = bits(traits & likes) > bits(traits & ~likes) ? 1 : 0;
                check.due("said by " + likes + " of " + traits, x.said(0, 0), want);
                check.due("fool by " + likes + " of " + traits, x.tally(0, 2), want);
            }
        }
    }

    private static void said(String name, FoolVotes x, int measure, String want) {
        for (int v = 0; v < want.length(); v++) {
            check.due(name + ": said(" + measure + ", " + v + ")", x.said(measure, v), want.charAt(v) - '0');
        }
    }

    private static void sorts() {
        said("a weathercock alone", Check.canton("w10", "a1"), 0, "1");
        said("a weathercock first, others follow", Check.canton("w10;w00;s00;w10;s10;w00", "a1"), 0, "110011");
        said("with the most: first, lead, level", Check.canton("m10;m00;s00;m10;s00;m10;s00;m10", "a1"), 0, "11010101");
        said("with the most, level and against", Check.canton("s10;s00;m00;m10", "a1"), 0, "1000");
        said("a steady one never minds", Check.canton("s10;s10;s00;s10", "a1"), 0, "1101");
        FoolVotes hushedAhead = Check.canton("s10;w00;s00;w10", "a1");
        hushedAhead.event(2, 0, 0);
        said("what a hushed one would say isn't said", hushedAhead, 0, "2000");
        FoolVotes hushedBetween = Check.canton("s10;s00;w10", "a1");
        hushedBetween.event(2, 0, 1);
        said("the last that was said, over a hushed one", hushedBetween, 0, "121");
        said("last on this measure, not on the one ahead", Check.canton("w10;s20", "a2;a1"), 1, "10");
    }

    private static void turnsByYears() {
        // a voter with a grudge of 2 turns at the first measure that goes against him, by years
        FoolVotes x = Check.canton("s12", "c1;a1;b1");
        x.fool(0, 0);
        check.due("year 0 comes first", x.said(1, 0), 1);
        check.due("turned by year 1", x.said(2, 0), 0);
        check.due("turned by year 2", x.said(0, 0), 0);
        FoolVotes y = Check.canton("s12", "b1;b1;a0");
        y.fool(0, 0);
        check.due("in a year as told: first", y.said(0, 0), 1);
        check.due("in a year as told: then", y.said(1, 0), 1);
        check.due("a0 took his grudge", y.at(0, 1), 2);
    }

    private static void dogAppleHush() {
        FoolVotes x = Check.canton("s10;s60", "a6;b6;b1");
        check.due("fool against 6", x.tally(1, 2), 0);
        x.event(0, 1, 5);
        check.due("6 with a dog: s1", x.said(1, 0), 0);
        check.due("6 without: s6", x.said(0, 1), 1);
        check.due("1 with a dog", x.said(2, 0), 1);
        FoolVotes y = Check.canton("s30;s40", "a2;a4;b4");
        y.fool(0, 4);
        y.event(0, 0, 0);
        check.due("a dog makes 2 to 3", y.said(0, 0), 1);
        check.due("a dog makes 4 to 5: as many", y.said(1, 1), 0);
        check.due("no dog in year 1", y.said(2, 1), 1);
        check.due("the fool sees the dog", y.tally(1, 2), 0);
        check.due("the fool in year 1", y.tally(2, 2), 1);
        FoolVotes z = Check.canton("s10;s10", "a1;b1");
        z.event(1, 1, 0);
        check.due("no apple in year 0", z.tally(0, 2), 1);
        check.due("an apple in year 1", z.tally(1, 2), 2);
        z.event(2, 1, 1);
        said("hush in year 0", z, 0, "11");
        said("hush in year 1", z, 1, "12");
        z.event(2, 0, 7);
        said("a hush of nobody", z, 0, "11");
    }

    private static void tallied(String name, FoolVotes x, int measure, int... want) {
        for (int what = 0; what < 5; what++) {
            check.due(name + ": tally(" + measure + ", " + what + ")", x.tally(measure, what), want[what]);
        }
    }

    private static void tally() {
        FoolVotes x = Check.canton("s10;s10;s00", "a1");
        tallied("two to one, fool for", x, 0, 2, 1, 1, 1, 0);
        x.fool(0, 0);
        tallied("two to one, fool against", x, 0, 2, 1, 0, 0, 1);
        x.fool(1, 1);
        tallied("level by his weight", x, 0, 2, 1, 0, 0, 1);
        x.fool(1, 0);
        tallied("no weight", x, 0, 2, 1, 0, 1, 0);
        x.fool(1, 9);
        x.event(1, 0, 0);
        tallied("an apple", x, 0, 2, 1, 2, 1, 0);
        FoolVotes y = Check.canton("s00;s00;s00", "a1");
        tallied("three against, weight 3", y, 0, 0, 3, 1, 0, 0);
        y.fool(1, 4);
        tallied("three against, weight 4", y, 0, 0, 3, 1, 1, 1);
        y.event(2, 0, 2);
        tallied("two against", y, 0, 0, 2, 1, 1, 1);
        tallied("nobody but the fool", Check.canton("", "a1"), 0, 0, 0, 1, 1, 1);
        tallied("nobody, the fool against", Check.canton("", "a2"), 0, 0, 0, 0, 0, 0);
    }

    private static void ends(String name, FoolVotes x, int voter, int... want) {
        for (int what = 0; what < 4; what++) {
            check.due(name + ": at(" + voter + ", " + what + ")", x.at(voter, what), want[what]);
        }
    }

    private static void grudges() {
        FoolVotes x = Check.canton("s10;s01", "a1;a1");
        x.fool(0, 0);
        ends("two grudges", x, 0, 1, 2, 0, 2);
        ends("grudge gone", x, 1, 0, 0, 0, 0);
        FoolVotes y = Check.canton("s10", "a1;a0;a1");
        y.fool(0, 0);
        ends("a grudge, none, a grudge", y, 0, 1, 1, 0, 2);
        FoolVotes z = Check.canton("s12", "a1;b1");
        z.fool(0, 0);
        z.event(2, 0, 0);
        z.event(2, 1, 0);
        ends("who was hushed stays", z, 0, 1, 2, 0, 0);
    }

    private static void coats() {
        FoolVotes x = Check.canton("s10", "a1;a1;a1;a1");
        x.fool(0, 0);
        ends("the third turns the coat", x, 0, 6, 0, 1, 3);
        check.due("and he says it", x.said(3, 0), 0);
        FoolVotes y = Check.canton("s11", "a1;a1");
        y.fool(0, 0);
        ends("told with a grudge of 1", y, 0, 6, 0, 1, 2);
        // turns to 6 at the third, then 2 is for him, and back to 1 at the sixth
        FoolVotes z = Check.canton("s10", "a1;a1;a1;a2;a2;a2;a1");
        z.fool(0, 0);
        ends("twice", z, 0, 1, 1, 2, 7);
        check.due("coats in all", z.count(6), 2);
    }

    private static void sums() {
        FoolVotes x = Check.canton("s20", "a1;a2;a3");
        check.due("sum(0)", x.sum(0), 1);
        check.due("sum(1): 1 by him, 2 against by him", x.sum(1), 2);
        check.due("sum(2)", x.sum(2), FoolVotes.BAD);
        check.due("sum(-1)", x.sum(-1), FoolVotes.BAD);
        x.fool(0, 2);
        check.due("sum(0)", x.sum(0), 1);
        check.due("sum(1)", x.sum(1), 0);
    }

    private static void level() {
        FoolVotes x = Check.canton("s10;s20", "c1;c3;b2;a3");
        check.due("level by turn, not by number", x.level(), 2);
        FoolVotes y = Check.canton("s10;s20;s30", "c1;a3");
        check.due("level never", y.level(), FoolVotes.NONE);
        y.event(2, 2, 2);
        check.due("level by a hush", y.level(), 0);
        check.due("level of nobody", Check.canton("", "b1;a1").level(), 1);
        check.due("level of no measures", Check.canton("s10", "").level(), FoolVotes.NONE);
    }

    private static void loyalAndBitter() {
        FoolVotes x = Check.canton("s00;s12;s10;s12", "a1");
        x.fool(0, 0);
        x.fool(1, 9);
        check.due("loyal", x.loyal(), 5);
        check.due("bitter, of like ones the least", x.bitter(), 1);
        FoolVotes y = Check.canton("s10;s30", "a1;a2");
        y.fool(0, 0);
        y.fool(1, 9);
        check.due("bitter, the most", y.bitter(), 1);
        check.due("loyal all", y.loyal(), 3);
        FoolVotes z = Check.canton("s30;s10", "a1;a2");
        z.fool(0, 0);
        z.fool(1, 9);
        check.due("bitter, the first", z.bitter(), 0);
        check.due("bitter nobody", Check.canton("s10", "a1").bitter(), FoolVotes.NONE);
        check.due("loyal nobody", Check.canton("", "a1").loyal(), 0);
    }

    private static void refusals() {
        FoolVotes x = Check.canton("s10;s20", "a1;b2;c3");
        check.due("said(3, 0)", x.said(3, 0), FoolVotes.BAD);
        check.due("said(-1, 0)", x.said(-1, 0), FoolVotes.BAD);
        check.due("said(0, 2)", x.said(0, 2), FoolVotes.BAD);
        check.due("said(0, -1)", x.said(0, -1), FoolVotes.BAD);
        check.due("tally(3, 0)", x.tally(3, 0), FoolVotes.BAD);
        check.due("tally(-1, 0)", x.tally(-1, 0), FoolVotes.BAD);
        check.due("tally(0, 5)", x.tally(0, 5), FoolVotes.BAD);
        check.due("tally(0, -1)", x.tally(0, -1), FoolVotes.BAD);
        check.due("at(2, 0)", x.at(2, 0), FoolVotes.BAD);
        check.due("at(-1, 0)", x.at(-1, 0), FoolVotes.BAD);
        check.due("at(0, 4)", x.at(0, 4), FoolVotes.BAD);
        check.due("at(0, -1)", x.at(0, -1), FoolVotes.BAD);
    }
}
