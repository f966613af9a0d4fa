/** Promises 23 to 29: what was seen and what follows, chances, ages. */
public final class SeenTest {
    private static final Check check = new Check();

    public static void main(String[] args) {
        seenAndForget();
        never();
        heart();
        likedAndSort();
        ask();
        chance();
        chanceOfEight();
        ages();
        check.end("SeenTest");
    }

    private static void seenAndForget() {
        FoolVotes x = new FoolVotes();
        check.due("forget none", x.forget(), 0);
        int[][] bad = {{-1, 0}, {12, 0}, {0, -1}, {0, 2}};
        for (int[] b : bad) {
            check.due("seen bad", x.seen(b[0], b[1]), FoolVotes.BAD);
        }
        for (int n = 1; n <= 8; n++) {
            check.due("seen " + n, x.seen(n == 8 ? 11 : 0, n % 2), n);
        }
        check.due("seen full", x.seen(0, 0), FoolVotes.FULL);
        check.due("seen bad ahead of full", x.seen(12, 0), FoolVotes.BAD);
        check.due("count(7)", x.count(7), 8);
        check.due("forget", x.forget(), 8);
        check.due("count(7)", x.count(7), 0);
        check.due("seen again", x.seen(0, 0), 1);
    }

    private static void never() {
        FoolVotes x = Check.canton("", "a1;b1;c4");
        check.due("no events", x.might(0), 0);
        x.event(1, 0, 0);
        x.event(1, 1, 0);
        x.event(0, 2, 0);
        check.due("nothing seen", x.might(0), 7);
        x.seen(0, 1);
        check.due("measure 0 was passed", x.might(0), 1);
        x.seen(1, 0);
        check.due("and measure 1 not", x.might(0), 1);
        x.seen(1, 1);
        check.due("both ways", x.might(0), 0);
        x.forget();
        x.seen(0, 0);
        check.due("measure 0 was not passed", x.might(0), 6);
        x.forget();
        x.seen(3, 0);
        check.due("of one that there is not", x.might(0), 0);
        check.due("of one that there is not", x.might(1), 0);
        Check.typeAll(x, 1, ";d0");
        check.due("there it is", x.might(0), 7);
        check.due("might(2)", x.might(2), FoolVotes.BAD);
        check.due("might(-1)", x.might(-1), FoolVotes.BAD);
        FoolVotes twice = Check.canton("", "a1");
        twice.event(1, 0, 0);
        twice.event(1, 0, 0);
        twice.seen(0, 1);
        check.due("two apples: neither alone", twice.might(0), 0);
    }

    private static void heart() {
        FoolVotes x = Check.canton("", "a1;b2;c7");
        check.due("nothing seen", x.might(1), 255);
        x.seen(0, 1);
        check.due("likes a dog", x.might(1), 0b10101010);
        x.seen(1, 0);
        check.due("and not trait 1", x.might(1), 0b00100010);
        x.seen(2, 1);
        check.due("and most of all", x.might(1), 0b00100000);
        x.seen(2, 0);
        check.due("contradiction", x.might(1), 0);
        check.due("no measures, seen none", new FoolVotes().might(1), 255);
    }

    private static void likedAndSort() {
        FoolVotes x = Check.canton("s00;w10", "a1");
        x.fool(1, 0);
        check.due("liked, nothing seen", x.was(0, 0), 255);
        check.due("sort, nothing seen", x.was(0, 1), 7);
        x.seen(0, 1);
        check.due("liked by who leads", x.was(0, 0), 0b10101010);
        check.due("liked by who follows", x.was(1, 0), 0);
        check.due("sort of who follows", x.was(1, 1), 0);
        FoolVotes y = Check.canton("s00;w10;s10", "a1");
        y.fool(1, 0);
        y.seen(0, 1);
        // w says no as the last did, m as the most did, s what he is for
        check.due("sort of the middle one", y.was(1, 1), 1);
        y.forget();
        y.seen(0, 0);
        check.due("sort of the middle one", y.was(1, 1), 6);
        FoolVotes z = Check.canton("s12", "a1;b1");
        z.fool(0, 0);
        z.fool(1, 1);
        z.seen(1, 0);
        check.due("at first, not at the end", z.was(0, 0), 255);
        check.due("was(1, 0)", z.was(1, 0), FoolVotes.BAD);
        check.due("was(-1, 0)", z.was(-1, 0), FoolVotes.BAD);
        check.due("was(0, 2)", z.was(0, 2), FoolVotes.BAD);
        check.due("was(0, -1)", z.was(0, -1), FoolVotes.BAD);
    }

    private static void ask() {
        check.due("no measures", Check.canton("s10", "").ask(), FoolVotes.NONE);
        check.due("all alike", Check.canton("", "a0;b0").ask(), 0);
        // 0 is never passed (8 alike), 3 by 3 and 7 only (6 alike), 2 by half (4 alike)
        check.due("by half", Check.canton("", "a0;b3;c2;d4").ask(), 2);
        check.due("the least number, not the first turn", Check.canton("", "x2;a2").ask(), 0);
        FoolVotes x = Check.canton("", "a1;b3;c2");
        x.seen(0, 1);
        // left are 1, 3, 5, 7: 3 and 7 pass b3 and c2
        check.due("of those left", x.ask(), 1);
        x.seen(1, 1);
        // left are 3, 7: all alike
        check.due("nothing to tell apart", x.ask(), 0);
        x.seen(1, 0);
        check.due("no heart is left: of like ones the least", x.ask(), 0);
    }

    private static void chanceIs(String name, FoolVotes x, int c, int measure, long above, long below) {
        check.due(name + ": chance(" + c + ", " + measure + ", 0)", x.chance(c, measure, 0), above);
        check.due(name + ": chance(" + c + ", " + measure + ", 1)", x.chance(c, measure, 1), below);
    }

    private static void chance() {
        FoolVotes x = Check.canton("", "a1;b2;c7");
        chanceIs("no events", x, 5, 0, 1, 1);
        chanceIs("no events", x, 5, 1, 0, 1);
        x.event(1, 0, 0);
        for (int c = 1; c < 16; c += 2) {
            chanceIs("unless there is an apple", x, c, 0, 16 - c, 16);
        }
        chanceIs("in lowest terms", x, 4, 0, 3, 4);
        chanceIs("never an apple", x, 0, 0, 1, 1);
        chanceIs("an apple", x, 16, 0, 0, 1);
        x.event(1, 0, 0);
        chanceIs("unless there is one of two", x, 8, 0, 1, 4);
        chanceIs("unless there is one of two", x, 5, 0, 121, 256);
        x.event(0, 1, 0);
        chanceIs("with a dog it is still as many", x, 5, 1, 0, 1);
        long bad = Long.MIN_VALUE + 2;
        check.due("chance(-1)", x.chance(-1, 0, 0), bad);
        check.due("chance(17)", x.chance(17, 0, 0), bad);
        check.due("chance(5, 3)", x.chance(5, 3, 0), bad);
        check.due("chance(5, -1)", x.chance(5, -1, 0), bad);
        check.due("chance(5, 0, 2)", x.chance(5, 0, 2), bad);
        check.due("chance(5, 0, -1)", x.chance(5, 0, -1), bad);
        // what is told later counts
        x.wipe(1);
        Check.typeAll(x, 1, "b1");
        chanceIs("told anew", x, 5, 0, 1, 1);
        x.event(1, 1, 0);
        chanceIs("told more", x, 5, 0, 11, 16);
        x.back();
        chanceIs("undone", x, 5, 0, 1, 1);
    }

    private static void chanceOfEight() {
        FoolVotes x = Check.canton("", "a1");
        long eleven = 1;
        for (int e = 0; e < 8; e++) {
            x.event(1, 0, e);
            eleven *= 11;
        }
        chanceIs("none of eight apples", x, 5, 0, eleven, 1L << 32);
        chanceIs("none of eight apples", x, 15, 0, 1, 1L << 32);
        chanceIs("none of eight apples", x, 1, 0, 15L * 15 * 15 * 15 * 15 * 15 * 15 * 15, 1L << 32);
    }

    /** MEASURES that the seed makes, typed as a text. */
    private static String typed(int seed, int n) {
        StringBuilder text = new StringBuilder();
        int s = seed;
        for (int i = 0; i < n; i++) {
            s = s * 1103515245 + 12345;
            int year = ((s >> 16) & 0xffff) % 24;
            s = s * 1103515245 + 12345;
            int traits = ((s >> 16) & 0xffff) % 8;
            text.append(i > 0 ? ";" : "").append((char) ('a' + year)).append(traits);
        }
        return text.toString();
    }

    private static void ages() {
        int[] seeds = {0, 7, -1, 123456789, Integer.MIN_VALUE, Integer.MAX_VALUE};
        for (int seed : seeds) {
            for (int n = 0; n <= 12; n++) {
                FoolVotes x = Check.canton("s12;w20;m61;s00", "x7");
                FoolVotes y = Check.canton("s12;w20;m61;s00", typed(seed, n));
                for (int e = 0; e < 6; e++) {
                    x.event(e % 3, 4 * e, e);
                    y.event(e % 3, 4 * e, e);
                }
                check.due("ages(" + seed + ", " + n + ", 0)", x.ages(seed, n, 0), y.sum(0));
                check.due("ages(" + seed + ", " + n + ", 1)", x.ages(seed, n, 1), y.count(6));
            }
        }
        FoolVotes x = Check.canton("s12", "a1");
        check.due("ages n = -1", x.ages(0, -1, 0), FoolVotes.BAD);
        check.due("ages n = 13", x.ages(0, 13, 0), FoolVotes.BAD);
        check.due("ages what = 2", x.ages(0, 0, 2), FoolVotes.BAD);
        check.due("ages what = -1", x.ages(0, 0, -1), FoolVotes.BAD);
        check.due("ages n = 0", x.ages(9, 0, 0), 0);
    }
}
