/** Edges of what had better be: promises 19 to 22. */
public final class PlanEdgesTest {
    private static final Check check = new Check();
    private static final int NONE = FoolVotes.NONE, BAD = FoolVotes.BAD;

    public static void main(String[] args) {
        put();
        putOthers();
        swapOfFew();
        swapOfLikeOnes();
        wish();
        spareNothing();
        spareSome();
        spareNone();
        check.end("PlanEdgesTest");
    }

    private static void put(String name, FoolVotes x, int measure, int which, int howMany) {
        check.due(name + ": put(" + measure + ", 0)", x.put(measure, 0), which);
        check.due(name + ": put(" + measure + ", 1)", x.put(measure, 1), howMany);
    }

    private static FoolVotes byTheFool(int likes, String measures) {
        FoolVotes x = Check.canton("", measures);
        x.fool(0, likes);
        return x;
    }

    private static void put() {
        check.of("19 put: NONE: by none, which and in how many");
        put("a fool who likes nothing", byTheFool(0, "a7"), 0, NONE, NONE);
        FoolVotes apple = byTheFool(7, "a7");
        apple.event(1, 0, 0);
        put("an apple and nobody else", apple, 0, NONE, NONE);
        check.of("19 put: otherwise in 0 TRAITS, where it is PASSED as told");
        for (int traits = 1; traits < 8; traits++) {
            put("as told", byTheFool(7, "a" + traits), 0, traits, 0);
        }
        check.of("19 put: otherwise in 1, 2 and 3 TRAITS");
        put("one", byTheFool(1, "a0"), 0, 1, 1);
        put("two", byTheFool(1, "a2"), 0, 1, 2);
        put("three", byTheFool(1, "a6"), 0, 1, 3);
        check.of("19 put: in fewest TRAITS, though one that is less is PASSED too");
        put("5 ahead of 1", byTheFool(5, "a4"), 0, 4, 0);
        put("7 ahead of 1", byTheFool(7, "a7"), 0, 7, 0);
        put("7 (of 6) ahead of 1", byTheFool(5, "a6"), 0, 4, 1);
        check.of("19 put: of like ones the least");
        put("1, 2, 4 are like", byTheFool(7, "a0"), 0, 1, 1);
        put("2, 4 are like", byTheFool(6, "a0"), 0, 2, 1);
        put("4, 7 are like", byTheFool(6, "a5"), 0, 4, 1);
        check.of("19 put: a MEASURE without TRAITS is never PASSED by who is FOR it");
        put("0 is never one", byTheFool(4, "a0"), 0, 4, 1);
    }

    private static void putOthers() {
        check.of("19 put: with a DOG 0 is as well as 1, and the least");
        FoolVotes dog = byTheFool(1, "a0;a1;a6");
        dog.event(0, 0, 0);
        put("as told", dog, 0, 0, 0);
        put("as told", dog, 1, 1, 0);
        put("two otherwise, 0 and 1 but 0 is nearer", dog, 2, 0, 2);
        check.of("19 put: the other MEASURES stay as told, the first and the last of twelve");
        FoolVotes x = byTheFool(1, "a0;b1;b1;b1;b1;b1;b1;b1;b1;b1;b1;x2");
        put("the first", x, 0, 1, 1);
        put("the last", x, 11, 1, 2);
        check.due("as told after that", x.measure(11, 1), 2);
        check.due("as told after that", x.sum(0), 10);
        check.of("19 put: by what VOTERS LIKE when it is its turn");
        // told with 2 he turns by a1 from 1 to 6; he alone votes in year 1
        FoolVotes turned = Check.canton("s12", "b0;a1");
        turned.fool(0, 0);
        turned.event(1, 1, 0);
        put("behind the coat", turned, 0, 2, 1);
    }

    private static void swap(String name, FoolVotes x, int first, int other, int howMany) {
        check.due(name + ": swap(0)", x.swap(0), first);
        check.due(name + ": swap(1)", x.swap(1), other);
        check.due(name + ": swap(2)", x.swap(2), howMany);
    }

    private static void swapOfFew() {
        check.of("20 swap: NONE: there are less than two, with MEASURES and without");
        swap("nobody", new FoolVotes(), NONE, NONE, NONE);
        swap("nobody", Check.canton("", "a1"), NONE, NONE, NONE);
        swap("one", Check.canton("s10", ""), NONE, NONE, NONE);
        swap("one", Check.canton("s10", "a1"), NONE, NONE, NONE);
        swap("a text that is not ended", Check.canton("s10;s10;", "a1"), NONE, NONE, NONE);
        check.of("20 swap: two change PLACES, whether it is better or worse");
        swap("two", Check.canton("s10;s10", "a1"), 0, 1, 1);
        FoolVotes worse = Check.canton("s10;w00", "a1");
        worse.fool(1, 0);
        check.due("as told", worse.sum(0), 1);
        swap("worse", worse, 0, 1, 0);
        check.of("20 swap: how many is 0 without MEASURES, where none is PASSED, and up to twelve");
        swap("no measures", Check.canton("s10;s00", ""), 0, 1, 0);
        swap("none passed", Check.canton("s00;s00", "a0"), 0, 1, 0);
        swap("twelve", Check.canton("s10;s10", "a1;a1;a1;a1;a1;a1;a1;a1;a1;a1;a1;a1"), 0, 1, 12);
    }

    private static void swapOfLikeOnes() {
        check.of("20 swap: of like ones the least row, of eight");
        swap("all like", Check.canton("s10;s10;s10;s10;s10;s10;s10;s10", "a1"), 0, 1, 1);
        check.of("20 swap: the last two of eight");
        // three to three, m is against, w says so; only with w ahead of m both say aye, as the last one did
        FoolVotes x = Check.canton("s00;s00;s00;s10;s10;s10;m00;w00", "a1");
        x.fool(1, 0);
        check.due("as told", x.tally(0, 0), 3);
        swap("6 and 7", x, 6, 7, 1);
        check.of("20 swap: the first is the least, then the other one");
        // only an aye ahead of the weathercocks makes more ayes than noes
        FoolVotes z = Check.canton("s00;w00;w00;s10;s10", "a1");
        z.fool(1, 0);
        check.due("as told", z.sum(0), 0);
        swap("0 and 3, as well as 0 and 4", z, 0, 3, 1);
        check.of("20 swap: a HUSH is of the VOTER, wherever he speaks");
        FoolVotes hush = Check.canton("s00;w00;s10", "a1");
        hush.fool(1, 0);
        hush.event(2, 0, 0);
        swap("the hushed one goes behind", hush, 0, 2, 1);
        check.of("20 swap: nobody has changed PLACES after it");
        check.due("as told", z.said(0, 1), 0);
        check.due("as told", hush.said(0, 0), 2);
    }

    private static void wish(String name, FoolVotes x, int which, int howMany) {
        check.due(name + ": wish(0)", x.wish(0), which);
        check.due(name + ": wish(1)", x.wish(1), howMany);
    }

    private static void wish() {
        check.of("21 wish: 0 and how many 0, without MEASURES or where none is ever PASSED");
        wish("no measures", new FoolVotes(), 0, 0);
        wish("never", Check.canton("", "a0;b0"), 0, 0);
        check.of("21 wish: each of 0 to 7 is looked at, the greatest too");
        for (int likes = 1; likes < 8; likes++) {
            StringBuilder measures = new StringBuilder();
            for (int t = 1; t < 8; t *= 2) {
                measures.append((likes & t) != 0 ? (measures.length() > 0 ? ";a" : "a") + t : "");
            }
            wish("each trait by itself", Check.canton("", measures.toString()), likes, Integer.bitCount(likes));
        }
        check.of("21 wish: of like ones the least");
        wish("all are like", Check.canton("s10;s10;s10;s10", "a1"), 0, 1);
        wish("1, 3, 5, 7 are like", Check.canton("", "a1"), 1, 1);
        check.of("21 wish: by his WEIGHT, 0 too, up to twelve MEASURES");
        FoolVotes none = Check.canton("", "a1");
        none.fool(1, 0);
        wish("no weight", none, 0, 0);
        wish("twelve", Check.canton("", "a1;b1;c1;d1;e1;f1;g1;h1;i1;j1;k1;l1"), 1, 12);
        check.of("21 wish: what he LIKES stays as told");
        FoolVotes x = Check.canton("", "a4");
        x.fool(0, 2);
        wish("4", x, 4, 1);
        check.due("LIKES", x.fool(0, 2), 2);
    }

    private static void spare(String name, FoolVotes x, int howMany, int first, int other) {
        check.due(name + ": spare(NONE)", x.spare(NONE), howMany);
        check.due(name + ": spare(0)", x.spare(0), first);
        check.due(name + ": spare(1)", x.spare(1), other);
    }

    /** Told with 2, he turns by a1 unless THE FOOL votes: an APPLE in year 0 turns him. */
    private static FoolVotes turnedByApple() {
        return Check.canton("s12;s00;s00", "a1");
    }

    private static void spareNothing() {
        check.of("22 spare: 0, where nobody turns: the i-th is NONE");
        spare("nothing at all", new FoolVotes(), 0, NONE, NONE);
        spare("no events", turnedByApple(), 0, NONE, NONE);
        FoolVotes idle = turnedByApple();
        for (int e = 0; e < 8; e++) {
            idle.event(1, 5, e);
        }
        spare("eight that do nothing", idle, 0, NONE, NONE);
        check.of("22 spare: BAD, below NONE and above 1, in whatever case");
        FoolVotes never = Check.canton("s12", "a1");
        never.fool(0, 0);
        for (FoolVotes x : new FoolVotes[] {new FoolVotes(), idle, never}) {
            check.due("spare(-2)", x.spare(-2), BAD);
            check.due("spare(2)", x.spare(2), BAD);
        }
    }

    private static void spareSome() {
        check.of("22 spare: 1, the first to the last of eight EVENTS; the i-th 1 is NONE");
        for (int at = 0; at < 8; at++) {
            FoolVotes x = turnedByApple();
            for (int e = 0; e < 8; e++) {
                x.event(1, e == at ? 0 : 5, 0);
            }
            spare("the apple is " + at, x, 1, at, NONE);
        }
        check.of("22 spare: 2, any two of eight EVENTS, the second more than the first");
        for (int a = 0; a < 8; a++) {
            for (int b = a + 1; b < 8; b++) {
                FoolVotes x = turnedByApple();
                for (int e = 0; e < 8; e++) {
                    x.event(1, e == a || e == b ? 0 : 5, 0);
                }
                spare("the apples are " + a + ", " + b, x, 2, a, b);
            }
        }
        check.of("22 spare: the fewest: one that does it is ahead of two that do, though their row is less");
        // the first APPLE in year 0 has its like behind it; without the HUSH the third one's aye carries it
        FoolVotes few = Check.canton("s12;s00;s10", "a1");
        few.event(1, 0, 0);
        few.event(1, 0, 0);
        few.event(2, 0, 2);
        few.event(2, 0, 7);
        check.due("he turns", few.count(6), 1);
        spare("the HUSH", few, 1, 2, NONE);
        check.of("22 spare: of like ones the least row");
        FoolVotes either = Check.canton("s11;s00;s00", "a1;b1");
        either.event(0, 9, 0);
        either.event(1, 1, 0);
        either.event(1, 0, 0);
        spare("either of two", either, 1, 1, NONE);
    }

    private static void spareNone() {
        check.of("22 spare: NONE, how many too, where three are too many, or no EVENT is to blame");
        FoolVotes three = turnedByApple();
        three.event(1, 0, 0);
        three.event(1, 0, 1);
        three.event(1, 0, 2);
        spare("three apples", three, NONE, NONE, NONE);
        FoolVotes never = Check.canton("s12", "a1");
        never.fool(0, 0);
        spare("no events", never, NONE, NONE, NONE);
        never.event(0, 0, 0);
        spare("an event that is not to blame", never, NONE, NONE, NONE);
        check.of("22 spare: EVENTS are as told after it");
        check.due("count(4)", three.count(4), 3);
        check.due("he turned", three.count(6), 1);
    }
}
