import java.math.BigInteger;

/** Edges of what was SEEN, of chances and of ages; promises 23 to 29. */
public final class SeenEdgesTest {
    private static final Check check = new Check();
    private static final int NONE = FoolVotes.NONE;
    private static final long BAD_LONG = Long.MIN_VALUE + 2;

    public static void main(String[] args) {
        seen();
        seenOfNoMeasure();
        never();
        heart();
        likedAndSort();
        ask();
        chanceOfFew();
        chanceInLowestTerms();
        chanceOfMany();
        chanceRefused();
        lots();
        ages();
        check.end("SeenEdgesTest");
    }

    private static void seen() {
        check.of("23 seen: how many, up to 8; MEASURES 0 to 11, whether they are there or not");
        FoolVotes x = new FoolVotes();
        int[] measures = {0, 11, 5, 0, 0, 11, 11, 3};
        for (int n = 1; n <= 8; n++) {
            check.due("seen", x.seen(measures[n - 1], n % 2), n);
            check.due("count(7)", x.count(7), n);
        }
        check.due("a ninth", x.seen(0, 0), FoolVotes.FULL);
        check.of("24 forget: all, how many: 8, then 0, which is no refusal");
        check.due("forget", x.forget(), 8);
        check.due("count(7)", x.count(7), 0);
        check.due("forget again", x.forget(), 0);
        check.due("forget of a new one", new FoolVotes().forget(), 0);
        check.of("23 seen: FULL no more, once they are forgotten, and none of the old is left");
        FoolVotes y = Check.canton("", "a1");
        for (int n = 0; n < 8; n++) {
            y.seen(11, 0);
        }
        check.due("by nothing", y.might(1), 0);
        y.forget();
        check.due("by all", y.might(1), 255);
        check.due("seen", y.seen(0, 1), 1);
        check.due("by those who like a dog", y.might(1), 0b10101010);
        check.of("23 seen: the eighth counts as the first");
        FoolVotes z = Check.canton("", "a1;b2");
        for (int n = 0; n < 7; n++) {
            z.seen(0, 1);
        }
        check.due("seven of a kind", z.might(1), 0b10101010);
        z.seen(1, 1);
        check.due("and the eighth", z.might(1), 0b10001000);
        check.of("23 seen: the same MEASURE as PASSED and as not: nothing makes it so");
        z.forget();
        z.seen(0, 1);
        z.seen(0, 0);
        check.due("by nothing", z.might(1), 0);
    }

    private static void seenOfNoMeasure() {
        check.of("SEEN of a MEASURE that there is not: neither ever comes out so");
        for (int is = 0; is < 2; is++) {
            for (int m = 2; m < 12; m++) {
                FoolVotes x = Check.canton("s10;w00", "a1;b2");
                x.event(0, 0, 0);
                check.due("at first NEVER", x.might(0), 1);
                x.seen(m, is);
                String name = "seen(" + m + ", " + is + "): ";
                check.due(name + "NEVER", x.might(0), 0);
                check.due(name + "HEART", x.might(1), 0);
                check.due(name + "LIKED", x.was(0, 0), 0);
                check.due(name + "SORT", x.was(1, 1), 0);
            }
        }
        check.of("SEEN of a MEASURE that was told later, or is told no more");
        FoolVotes y = Check.canton("", "a1");
        y.seen(1, 0);
        check.due("not there", y.might(1), 0);
        Check.typeAll(y, 1, ";b0");
        check.due("there", y.might(1), 255);
        y.type(1, ';');
        check.due("a FAULT: not there", y.might(1), 0);
        y.wipe(1);
        check.due("wiped: not there", y.might(1), 0);
        check.due("it is SEEN still", y.count(7), 1);
    }

    private static void never() {
        check.of("25 might: NEVER is 0 without EVENTS, whatever was SEEN");
        FoolVotes x = Check.canton("", "a1");
        check.due("nothing seen", x.might(0), 0);
        x.seen(0, 1);
        check.due("seen as it is", x.might(0), 0);
        check.of("25 might: NEVER is all EVENTS, eight too, where nothing was SEEN");
        FoolVotes y = Check.canton("", "a1");
        for (int e = 0; e < 8; e++) {
            check.due(e + " events", y.might(0), (1 << e) - 1);
            y.event(1, 0, e);
        }
        check.due("8 events", y.might(0), 255);
        check.of("25 might: NEVER, each EVENT alone, first to last of eight");
        for (int at = 0; at < 8; at++) {
            FoolVotes z = Check.canton("", "a1");
            for (int e = 0; e < 8; e++) {
                z.event(1, e == at ? 0 : 9, 0);
            }
            z.seen(0, 1);
            check.due("the apple is " + at, z.might(0), 1 << at);
            z.forget();
            z.seen(0, 0);
            check.due("all but the apple " + at, z.might(0), 255 & ~(1 << at));
        }
        check.of("25 might: NEVER, one alone: not where two must not have been, not where none must");
        y.seen(0, 1);
        check.due("eight apples", y.might(0), 0);
        FoolVotes dog = Check.canton("", "a0");
        dog.event(0, 0, 0);
        dog.seen(0, 1);
        check.due("it is so with all EVENTS, not without it", dog.might(0), 0);
    }

    private static void heart() {
        check.of("25 might: HEART is all, 255, where nothing was SEEN, without MEASURES too");
        check.due("new", new FoolVotes().might(1), 255);
        check.due("with measures", Check.canton("s10", "a1").might(1), 255);
        check.of("25 might: HEART, each of 0 to 7 is one");
        for (int likes = 0; likes < 8; likes++) {
            FoolVotes x = Check.canton("", "a1;b2;c4");
            for (int t = 0; t < 3; t++) {
                x.seen(t, likes >> t & 1);
            }
            check.due("likes " + likes, x.might(1), 1 << likes);
        }
        check.of("25 might: HEART is in place of what is told");
        FoolVotes y = Check.canton("", "a4");
        y.fool(0, 0);
        y.seen(0, 1);
        check.due("those who like 4", y.might(1), 0b11110000);
        check.due("told still", y.fool(0, 0), 0);
        check.of("25 might: HEART by a WEIGHT of 0 or with an APPLE is all or nothing");
        y.fool(1, 0);
        check.due("no weight", y.might(1), 0);
        y.fool(1, 9);
        y.event(1, 0, 0);
        check.due("an apple", y.might(1), 0);
        y.forget();
        y.seen(0, 0);
        check.due("an apple, not passed", y.might(1), 255);
    }

    private static void likedAndSort() {
        check.of("26 was: LIKED is 255, SORT is 7, where nothing was SEEN, first and last of eight");
        FoolVotes x = Check.canton(Cantons.EIGHT, "a1");
        for (int v = 0; v < 8; v += 7) {
            check.due("LIKED of " + v, x.was(v, 0), 255);
            check.due("SORT of " + v, x.was(v, 1), 7);
        }
        check.of("26 was: LIKED, each of 0 to 7 is one");
        for (int likes = 0; likes < 8; likes++) {
            FoolVotes y = Check.canton("s00", "a1;b2;c4");
            y.fool(1, 0);
            for (int t = 0; t < 3; t++) {
                y.seen(t, likes >> t & 1);
            }
            // three in a row that come out by his word leave him no GRUDGE
            check.due("liked " + likes, y.was(0, 0), 1 << likes);
        }
        check.of("26 was: LIKED at first: the GRUDGE stays as told, and he may turn");
        FoolVotes turned = Check.canton("s02;s10", "a2;b2");
        turned.fool(0, 0);
        turned.fool(1, 2);
        turned.seen(1, 0);
        check.due("liked", turned.was(0, 0), 255);
        check.due("told still", turned.voter(0, 1), 0);
        check.of("26 was: SORT, each alone; one's own among them");
        // s10 aye, then two noes: he is for it if steady, says no as the last, no as the most
        FoolVotes z = Check.canton("s00;s00;m10;s10;s10", "a1");
        z.fool(1, 0);
        check.due("not passed as told", z.sum(0), 0);
        z.seen(0, 1);
        check.due("passed: by a steady one", z.was(2, 1), 1);
        z.forget();
        z.seen(0, 0);
        check.due("not passed: the two others", z.was(2, 1), 6);
        // s00, s10, s10: last was aye, most aye; s10, s10, s00: last was no, most aye
        FoolVotes w = Check.canton("s10;s10;s00;s00;m00", "a1");
        w.fool(1, 0);
        w.seen(0, 1);
        check.due("passed: none, level ahead of him", w.was(4, 1), 0);
        FoolVotes last = Check.canton("s00;s00;s10;s10;s00", "a1");
        last.fool(1, 0);
        last.seen(0, 1);
        check.due("passed: a weathercock alone", last.was(4, 1), 2);
        FoolVotes most = Check.canton("s10;s10;s00;s00;s10;s00;s00", "a1");
        most.fool(1, 0);
        most.event(2, 0, 3);
        most.event(2, 0, 6);
        check.due("three to two", most.sum(0), 1);
        most.seen(0, 1);
        check.due("whatever he is", most.was(5, 1), 7);
        check.of("26 was: SORT: who goes with the most alone");
        // aye, aye, no: steady he is against, as the last he says no, as the most aye
        FoolVotes m = Check.canton("s10;s10;s00;s00;s00", "a1");
        m.fool(1, 0);
        m.seen(0, 1);
        check.due("passed: with the most alone", m.was(3, 1), 4);
    }

    private static void ask() {
        check.of("27 ask: NONE without MEASURES, whatever was SEEN");
        FoolVotes x = new FoolVotes();
        check.due("new", x.ask(), NONE);
        x.seen(0, 0);
        check.due("seen", x.ask(), NONE);
        check.due("a fault", Check.canton("", "a1;").ask(), NONE);
        check.of("27 ask: one MEASURE is the answer, whatever it tells");
        check.due("one", Check.canton("", "a0").ask(), 0);
        check.due("one", Check.canton("", "a1").ask(), 0);
        check.of("27 ask: the greatest number is least: 4 of 8 is ahead of 6 and of 8");
        check.due("the last of twelve", Check.canton("", "a0;a0;a0;a0;a0;a3;a0;a0;a0;a0;a0;a1").ask(), 11);
        check.due("2 of 8", Check.canton("", "a0;a3").ask(), 1);
        check.of("27 ask: all of 0 to 7 are counted, whether it is PASSED by all or by none");
        FoolVotes idle = Check.canton("s10", "a0;b1");
        idle.fool(1, 0);
        check.due("by none, by all: 8 and 8", idle.ask(), 0);
        idle = Check.canton("s10", "a1;b0");
        idle.fool(1, 0);
        check.due("by all, by none: 8 and 8", idle.ask(), 0);
        check.of("27 ask: of like ones the least, not the first by turn");
        check.due("like ones", Check.canton("", "x1;a2;b4").ask(), 0);
        check.of("27 ask: of those of HEART alone; one left tells nothing more");
        FoolVotes y = Check.canton("", "a1;b2;c4");
        y.seen(0, 1);
        check.due("the next", y.ask(), 1);
        y.seen(1, 0);
        check.due("the next", y.ask(), 2);
        y.seen(2, 1);
        check.due("one is left: all are alike", y.ask(), 0);
        check.of("27 ask: where HEART is empty all are alike, and the least is the answer");
        y.seen(2, 0);
        check.due("HEART", y.might(1), 0);
        check.due("ask", y.ask(), 0);
    }

    private static void chanceIs(String name, FoolVotes x, int c, int measure, long above, long below) {
        check.due(name + ": chance(" + c + ", " + measure + ", 0)", x.chance(c, measure, 0), above);
        check.due(name + ": chance(" + c + ", " + measure + ", 1)", x.chance(c, measure, 1), below);
    }

    private static void chanceOfFew() {
        check.of("28 chance: 0 by 1 and 1 by 1, without EVENTS, by each c");
        FoolVotes x = Check.canton("", "a1;b0");
        for (int c = 0; c <= 16; c++) {
            chanceIs("passed", x, c, 0, 1, 1);
            chanceIs("not passed", x, c, 1, 0, 1);
        }
        check.of("28 chance: c = 0: no EVENT is; c = 16: all are");
        FoolVotes y = Check.canton("", "a1;b0");
        y.event(1, 0, 0);
        y.event(0, 1, 0);
        chanceIs("never an apple", y, 0, 0, 1, 1);
        chanceIs("always an apple", y, 16, 0, 0, 1);
        chanceIs("never a dog", y, 0, 1, 0, 1);
        chanceIs("always a dog", y, 16, 1, 1, 1);
        check.of("28 chance: 0 by 1 and 1 by 1 with EVENTS that change nothing");
        FoolVotes z = Check.canton("", "a1;b0");
        for (int e = 0; e < 8; e++) {
            z.event(1, 9, 0);
        }
        for (int c = 0; c <= 16; c++) {
            chanceIs("passed", z, c, 0, 1, 1);
            chanceIs("not passed", z, c, 1, 0, 1);
        }
    }

    private static void chanceInLowestTerms() {
        check.of("28 chance: in lowest terms, by each c, of one to eight EVENTS of which one is enough");
        for (int n = 1; n <= 8; n++) {
            FoolVotes x = Check.canton("", "a1;b0");
            for (int e = 0; e < n; e++) {
                x.event(1, 0, 0);
            }
            for (int c = 0; c <= 16; c++) {
                BigInteger above = BigInteger.valueOf(16 - c).pow(n);
                BigInteger below = BigInteger.valueOf(16).pow(n);
                BigInteger by = above.gcd(below);
                chanceIs(n + " apples", x, c, 0, above.divide(by).longValue(), below.divide(by).longValue());
            }
            FoolVotes y = Check.canton("", "b0");
            for (int e = 0; e < n; e++) {
                y.event(0, 1, 0);
            }
            for (int c = 0; c <= 16; c++) {
                BigInteger below = BigInteger.valueOf(16).pow(n);
                BigInteger above = below.subtract(BigInteger.valueOf(16 - c).pow(n));
                BigInteger by = above.gcd(below);
                chanceIs(n + " dogs", y, c, 0, above.divide(by).longValue(), below.divide(by).longValue());
            }
        }
    }

    private static void chanceOfMany() {
        check.of("28 chance: of eight EVENTS what is below is more than an int");
        FoolVotes x = Check.canton("", "a1");
        for (int e = 0; e < 8; e++) {
            x.event(1, 0, e);
        }
        chanceIs("15 sixteenths", x, 15, 0, 1, 4294967296L);
        chanceIs("1 sixteenth", x, 1, 0, 2562890625L, 4294967296L);
        chanceIs("8 sixteenths", x, 8, 0, 1, 256);
        check.of("28 chance: each EVENT by itself, of unlike kinds: an APPLE stops it, a DOG makes it, a HUSH is of nobody");
        FoolVotes y = Check.canton("", "a0");
        y.event(1, 0, 0);
        y.event(0, 0, 0);
        y.event(2, 0, 0);
        chanceIs("a dog and no apple", y, 4, 0, 3, 16);
        chanceIs("a dog and no apple", y, 5, 0, 55, 256);
        check.of("28 chance: what is told later counts, and what is undone no more");
        y.back();
        y.back();
        chanceIs("no dog", y, 4, 0, 0, 1);
        y.event(0, 0, 0);
        chanceIs("a dog again", y, 4, 0, 3, 16);
        y.fool(1, 0);
        chanceIs("no weight", y, 4, 0, 0, 1);
        y.fool(1, 3);
        y.fool(0, 2);
        chanceIs("no liking", y, 4, 0, 0, 1);
        y.fool(0, 1);
        Check.typeAll(y, 0, "s00;s00;s00");
        chanceIs("three noes", y, 4, 0, 0, 1);
        y.wipe(0);
        chanceIs("nobody", y, 4, 0, 3, 16);
    }

    private static void chanceRefused() {
        check.of("28 chance: BAD is the least long and 2 more, above and below");
        FoolVotes x = Check.canton("", "a1;b1");
        int[][] calls = {
            {-1, 0, 0}, {17, 0, 0}, {-1, 0, 1}, {17, 0, 1}, {5, -1, 0}, {5, 2, 0}, {5, 2, 1}, {5, 0, -1}, {5, 0, 2},
        };
        for (int[] c : calls) {
            check.due("chance(" + c[0] + ", " + c[1] + ", " + c[2] + ")", x.chance(c[0], c[1], c[2]), BAD_LONG);
        }
        check.due("the number", BAD_LONG, -9223372036854775806L);
        check.due("without measures", new FoolVotes().chance(5, 0, 0), BAD_LONG);
    }

    /** A LOT worked out with numbers that don't wrap: the SEED from 0 to 2^32 - 1. */
    private static long nextSeed(long seed) {
        BigInteger next = BigInteger.valueOf(1103515245).multiply(BigInteger.valueOf(seed)).add(BigInteger.valueOf(12345));
        return next.mod(BigInteger.ONE.shiftLeft(32)).longValue();
    }

    private static String measuresOf(int seed, int n) {
        StringBuilder text = new StringBuilder();
        long s = seed & 0xffffffffL;
        for (int i = 0; i < n; i++) {
            s = nextSeed(s);
            char year = (char) ('a' + s / 65536 % 24);
            s = nextSeed(s);
            text.append(i > 0 ? ";" : "").append(year).append(s / 65536 % 8);
        }
        return text.toString();
    }

    private static void lots() {
        check.of("LOTS: the first ones of the seeds 0, 1, -1, worked out by hand");
        check.due("after 0", nextSeed(0), 12345);
        check.due("after 1", nextSeed(1), 1103527590L);
        check.due("after -1", nextSeed(0xffffffffL), 4294967296L + 12345 - 1103515245);
        check.of("LOTS: as ints that wrap, the upper 16 bits from 0 on: seeds at the ends and by the thousand");
        int[] seeds = {0, 1, -1, 2, Integer.MIN_VALUE, Integer.MAX_VALUE, Integer.MIN_VALUE + 1, 65535, 65536, -65536};
        for (int k = 0; k < 200; k++) {
            int seed = k < seeds.length ? seeds[k] : k * 21474836 - 2147483647;
            FoolVotes x = Check.canton(Cantons.EIGHT, "a7;x1");
            FoolVotes y = Check.canton(Cantons.EIGHT, measuresOf(seed, 12));
            for (int e = 0; e < 8; e++) {
                x.event(e % 3, 3 * e, e);
                y.event(e % 3, 3 * e, e);
            }
            check.due("ages(" + seed + ", 12, 0)", x.ages(seed, 12, 0), y.sum(0));
            check.due("ages(" + seed + ", 12, 1)", x.ages(seed, 12, 1), y.count(6));
        }
    }

    private static void ages() {
        check.of("29 ages: n = 0: none is PASSED, no COAT is turned");
        FoolVotes x = Check.canton("s12;s00;s00;s00;s00", "a1");
        check.due("as told a coat is turned", x.count(6), 1);
        check.due("ages(7, 0, 0)", x.ages(7, 0, 0), 0);
        check.due("ages(7, 0, 1)", x.ages(7, 0, 1), 0);
        check.of("29 ages: each n from 1 to 12");
        for (int n = 1; n <= 12; n++) {
            for (int seed = -3; seed <= 3; seed++) {
                FoolVotes y = Check.canton("s12;s00;s00;s00;s00", measuresOf(seed, n));
                check.due("ages(" + seed + ", " + n + ", 0)", x.ages(seed, n, 0), y.sum(0));
                check.due("ages(" + seed + ", " + n + ", 1)", x.ages(seed, n, 1), y.count(6));
            }
        }
        check.of("29 ages: in place of those told: none, twelve or a FAULT there make no difference");
        String[] told = {"", Cantons.TWELVE, "a1;"};
        for (String measures : told) {
            FoolVotes y = Check.canton(Cantons.EIGHT, measures);
            check.due("PASSED", y.ages(99, 12, 0), Check.canton(Cantons.EIGHT, measuresOf(99, 12)).sum(0));
            check.due("COATS", y.ages(99, 12, 1), Check.canton(Cantons.EIGHT, measuresOf(99, 12)).count(6));
            check.due("as told after it", y.count(3), measures.length());
        }
        check.of("29 ages: without VOTERS, THE FOOL alone, and nobody turns");
        for (int seed = 0; seed < 20; seed++) {
            check.due("PASSED", new FoolVotes().ages(seed, 12, 0), Check.canton("", measuresOf(seed, 12)).sum(0));
            check.due("COATS", new FoolVotes().ages(seed, 12, 1), 0);
        }
    }
}
