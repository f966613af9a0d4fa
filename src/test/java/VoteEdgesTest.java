/** Edges of THE FOOL, EVENTS, votes, GRUDGES and COATS; promises 8 to 10 and 12 to 18. */
public final class VoteEdgesTest {
    private static final Check check = new Check();
    private static final int NONE = FoolVotes.NONE, NOT = FoolVotes.NOT;
    private static final String EIGHT_AYES = "s10;s10;s10;s10;s10;s10;s10;s10";
    private static final String EIGHT_NOES = "s00;s00;s00;s00;s00;s00;s00;s00";

    public static void main(String[] args) {
        fool();
        events();
        dogs();
        apples();
        hushes();
        years();
        whoIsFor();
        weathercocks();
        withTheMost();
        saidAtTheEnds();
        ayesAndNoes();
        passed();
        decided();
        grudges();
        coats();
        sums();
        level();
        loyal();
        bitter();
        check.end("VoteEdgesTest");
    }

    private static void fool() {
        check.of("8 fool: what it was, for each that he LIKES, 0 to 7");
        FoolVotes x = new FoolVotes();
        int was = 1;
        for (int v = 0; v <= 7; v++) {
            check.due("fool(0, " + v + ")", x.fool(0, v), was);
            check.due("fool(0, " + v + ") again", x.fool(0, v), v);
            was = v;
        }
        check.of("8 fool: what it was, for each WEIGHT, 0 to 9");
        was = 3;
        for (int v = 0; v <= 9; v++) {
            check.due("fool(1, " + v + ")", x.fool(1, v), was);
            check.due("fool(1, " + v + ") again", x.fool(1, v), v);
            was = v;
        }
        check.of("8 fool: what he LIKES and his WEIGHT are two things");
        check.due("LIKES still", x.fool(0, 2), 7);
        check.due("WEIGHT still", x.fool(1, 2), 9);
    }

    private static void events() {
        check.of("9 event: how many, up to 8; the least and the greatest YEAR and number");
        FoolVotes x = Check.canton("s10", "a1");
        for (int n = 1; n <= 8; n++) {
            check.due("event " + n, x.event(n % 3, n % 2 == 0 ? 0 : 23, n % 2 == 0 ? 7 : 0), n);
            check.due("count(4)", x.count(4), n);
        }
        check.due("a ninth", x.event(0, 0, 0), FoolVotes.FULL);
        check.of("9 event: FULL no more, once one is undone");
        check.due("back", x.back(), 7);
        check.due("event", x.event(2, 0, 0), 8);
        check.due("it is", x.said(0, 0), 2);
        check.of("10 back: how many are left, down to 0; then NOT");
        for (int left = 7; left >= 0; left--) {
            check.due("back", x.back(), left);
        }
        check.due("back of none", x.back(), NOT);
        check.due("count(4)", x.count(4), 0);
        check.of("10 back: the last EVENT alone is undone");
        FoolVotes y = Check.canton("s10;s10", "a1");
        y.event(2, 0, 0);
        y.event(2, 0, 1);
        y.back();
        check.due("the first is still", y.said(0, 0), 2);
        check.due("the last is not", y.said(0, 1), 1);
        y.event(1, 0, 0);
        check.due("one more is behind it", y.tally(0, 2), 2);
        check.due("and the first is still", y.said(0, 0), 2);
    }

    private static void dogs() {
        check.of("a DOG: whatever number is told");
        for (int number = 0; number < 8; number++) {
            FoolVotes x = Check.canton("s30;s20;s40", "a2;a4;b4");
            x.event(0, 0, number);
            FoolVotes y = Check.canton("s30;s20;s40", "a2;a4;b4");
            y.event(0, 0, 0);
            check.alike("number " + number, x, y);
        }
        check.of("a DOG: all MEASURES of that YEAR, none of the YEARS beside it");
        FoolVotes x = Check.canton("s10", "m0;l0;m0;n0;m1");
        x.event(0, 12, 0);
        int[] want = {1, 0, 1, 0, 1};
        for (int m = 0; m < 5; m++) {
            check.due("said(" + m + ", 0)", x.said(m, 0), want[m]);
        }
        check.of("a DOG: TRAIT 0 as well, which it may have already; two DOGS are as one");
        for (int traits = 0; traits < 8; traits++) {
            for (int likes = 0; likes < 8; likes++) {
                FoolVotes dog = Check.canton("s" + likes + "0", "x" + traits);
                dog.event(0, 23, 0);
                FoolVotes told = Check.canton("s" + likes + "0", "x" + (traits | 1));
                check.due("with a DOG " + traits + " by " + likes, dog.said(0, 0), told.said(0, 0));
                dog.event(0, 23, 1);
                check.due("with two DOGS " + traits + " by " + likes, dog.said(0, 0), told.said(0, 0));
            }
        }
    }

    private static void apples() {
        check.of("an APPLE: whatever number is told");
        for (int number = 0; number < 8; number++) {
            FoolVotes x = Check.canton("s30;s20;s40", "a1;a4;b4");
            x.event(1, 0, number);
            FoolVotes y = Check.canton("s30;s20;s40", "a1;a4;b4");
            y.event(1, 0, 0);
            check.alike("number " + number, x, y);
        }
        check.of("an APPLE: THE FOOL does not vote in that YEAR, but in the YEARS beside it; two are as one");
        FoolVotes x = Check.canton("s00", "m1;l1;m1;n1");
        int[] want = {2, 1, 2, 1};
        for (int n = 1; n <= 2; n++) {
            x.event(1, 12, 0);
            for (int m = 0; m < 4; m++) {
                check.due("what he did: tally(" + m + ", 2)", x.tally(m, 2), want[m]);
                check.due("passed: tally(" + m + ", 3)", x.tally(m, 3), want[m] % 2);
                check.due("decided: tally(" + m + ", 4)", x.tally(m, 4), want[m] % 2);
            }
        }
        check.of("an APPLE is not a no: what he did is 2 whatever he is FOR, and 0 where he says no");
        FoolVotes y = Check.canton("", "a6;a1;b6");
        y.event(1, 0, 0);
        check.due("against, an APPLE", y.tally(0, 2), 2);
        check.due("for, an APPLE", y.tally(1, 2), 2);
        check.due("against", y.tally(2, 2), 0);
    }

    private static void hushes() {
        check.of("a HUSH: of VOTER 0 to 7, that one alone, in that YEAR alone; two are as one");
        for (int v = 0; v < 8; v++) {
            FoolVotes x = Check.canton(EIGHT_AYES, "l1;m1;n1");
            for (int n = 1; n <= 2; n++) {
                x.event(2, 12, v);
                for (int u = 0; u < 8; u++) {
                    check.due("the YEAR ahead", x.said(0, u), 1);
                    check.due("said(1, " + u + ") with a HUSH of " + v, x.said(1, u), u == v ? 2 : 1);
                    check.due("the YEAR behind", x.said(2, u), 1);
                }
                check.due("ayes", x.tally(1, 0), 7);
                check.due("noes", x.tally(1, 1), 0);
            }
        }
        check.of("a HUSH of a VOTER that there is not hushes nobody");
        FoolVotes y = Check.canton("s10;w10;m10", "a1");
        for (int v = 3; v < 8; v++) {
            y.event(2, 0, v);
        }
        check.due("ayes", y.tally(0, 0), 3);
        check.of("a HUSH of all: nobody says a word, THE FOOL alone does");
        FoolVotes z = Check.canton(EIGHT_NOES, "a1");
        for (int v = 0; v < 8; v++) {
            z.event(2, 0, v);
        }
        int[] want = {0, 0, 1, 1, 1};
        for (int what = 0; what < 5; what++) {
            check.due("tally(0, " + what + ")", z.tally(0, what), want[what]);
        }
        check.due("level", z.level(), 0);
        check.due("nobody said otherwise", z.bitter(), NONE);
        check.of("a HUSH told ahead of its VOTER is of him once he is there");
        FoolVotes late = Check.canton("s10", "a1");
        late.event(2, 0, 1);
        check.due("nobody yet", late.tally(0, 0), 1);
        Check.typeAll(late, 0, ";s10");
        check.due("there he is", late.said(0, 1), 2);
    }

    private static void years() {
        // told with a GRUDGE of 2 he turns by the first that comes out otherwise, so what he says tells the turn
        check.of("MEASURES are voted on by YEARS, 0 first and 23 last");
        FoolVotes x = Check.canton("s12", "x1;a1");
        x.fool(0, 0);
        check.due("in year 0, the second told, he is as told", x.said(1, 0), 1);
        check.due("in year 23, the first told, he has turned", x.said(0, 0), 0);
        check.of("MEASURES of one YEAR are voted on as told, twelve too");
        FoolVotes y = Check.canton("s10", "h1;h1;h1;h1;h1;h1;h1;h1;h1;h1;h1;h1");
        y.fool(0, 0);
        for (int m = 0; m < 12; m++) {
            check.due("said(" + m + ", 0)", y.said(m, 0), m < 3 ? 1 : 0);
        }
        check.of("MEASURES told in the YEARS' contrary order, twelve of them");
        FoolVotes z = Check.canton("s10", "l1;k1;j1;i1;h1;g1;f1;e1;d1;c1;b1;a1");
        z.fool(0, 0);
        for (int m = 0; m < 12; m++) {
            check.due("said(" + m + ", 0)", z.said(m, 0), m > 8 ? 1 : 0);
        }
    }

    private static void whoIsFor() {
        check.of("FOR: more TRAITS that he LIKES than such as he does not; as many are too few, none too");
        for (int likes = 0; likes < 8; likes++) {
            for (int traits = 0; traits < 8; traits++) {
                int balance = 0;
                for (int t = 0; t < 3; t++) {
                    int has = traits >> t & 1;
                    balance += (likes >> t & 1) == 1 ? has : -has;
                }
                FoolVotes x = Check.canton("s" + likes + "0;w" + likes + "0", "a" + traits);
                x.event(2, 0, 1);
                x.fool(0, likes);
                check.due("s" + likes + " on " + traits, x.said(0, 0), balance > 0 ? 1 : 0);
                check.due("the fool " + likes + " on " + traits, x.tally(0, 2), balance > 0 ? 1 : 0);
            }
        }
    }

    private static void said(String name, FoolVotes x, int measure, String want) {
        for (int v = 0; v < want.length(); v++) {
            check.due(name + ": said(" + measure + ", " + v + ")", x.said(measure, v), want.charAt(v) - '0');
        }
    }

    private static void weathercocks() {
        check.of("a weathercock, where nothing was said yet, says what he is FOR");
        said("first", Check.canton("w10;s00", "a1"), 0, "10");
        said("first", Check.canton("w00;s10", "a1"), 0, "01");
        check.of("a weathercock, where all ahead are HUSHED, says what he is FOR");
        FoolVotes x = Check.canton("s00;s00;w10", "a1");
        x.event(2, 0, 0);
        x.event(2, 0, 1);
        said("all hushed ahead", x, 0, "221");
        check.of("a weathercock says what was said last, not what most said, nor on another MEASURE");
        said("last", Check.canton("s10;s10;s00;w10", "a1"), 0, "1100");
        said("last", Check.canton("s00;s00;s10;w00", "a1"), 0, "0011");
        said("each measure anew", Check.canton("w10;s00", "a1;a1;b1"), 2, "10");
        check.of("a weathercock says what was said last by who was not HUSHED");
        FoolVotes y = Check.canton("s10;s00;w00", "a1");
        y.event(2, 0, 1);
        said("over a hushed one", y, 0, "121");
    }

    private static void withTheMost() {
        check.of("who goes with the most, where nothing was said yet, says what he is FOR");
        said("first", Check.canton("m10;s00", "a1"), 0, "10");
        said("first", Check.canton("m00;s10", "a1"), 0, "01");
        check.of("who goes with the most, where all ahead are HUSHED, says what he is FOR");
        FoolVotes x = Check.canton("s00;m10", "a1");
        x.event(2, 0, 0);
        said("all hushed ahead", x, 0, "21");
        check.of("who goes with the most, where as many said aye as no, says what he is FOR");
        said("level, for", Check.canton("s10;s00;m10", "a1"), 0, "101");
        said("level, against", Check.canton("s00;s10;m00", "a1"), 0, "010");
        check.of("who goes with the most says what most said by then, by one more too");
        said("one more aye", Check.canton("s10;s00;s10;m00;s00;s00;s00", "a1"), 0, "1011000");
        said("one more no", Check.canton("s00;s10;s00;m10;s10;s10;s10", "a1"), 0, "0100111");
        check.of("who goes with the most counts nobody who is HUSHED, nor THE FOOL");
        FoolVotes y = Check.canton("s10;s00;s00;m10", "a1");
        y.event(2, 0, 2);
        said("level without the hushed one", y, 0, "1021");
        FoolVotes z = Check.canton("s00;m10", "a1");
        z.fool(1, 9);
        said("the fool has said nothing", z, 0, "00");
    }

    /** VOTERS that are all steady: so many ayes and noes on a1. */
    private static FoolVotes ayesAndNoes(int ayes, int noes, int foolLikes, int weight) {
        StringBuilder voters = new StringBuilder();
        for (int v = 0; v < ayes + noes; v++) {
            voters.append(v > 0 ? ";" : "").append(v < ayes ? "s10" : "s00");
        }
        FoolVotes x = Check.canton(voters.toString(), "a1");
        x.fool(0, foolLikes);
        x.fool(1, weight);
        return x;
    }

    private static void saidAtTheEnds() {
        check.of("12 said: no 0, aye 1, HUSHED 2, by the first and the last of eight on the first and the last of twelve");
        FoolVotes x = Check.canton("s10;s00;s00;s00;s00;s00;s00;s60", "a1;b0;b0;b0;b0;b0;b0;b0;b0;b0;b0;x6");
        check.due("said(0, 0)", x.said(0, 0), 1);
        check.due("said(0, 7)", x.said(0, 7), 0);
        check.due("said(11, 0)", x.said(11, 0), 0);
        check.due("said(11, 7)", x.said(11, 7), 1);
        x.event(2, 0, 7);
        x.event(2, 23, 0);
        check.due("said(0, 0)", x.said(0, 0), 1);
        check.due("said(0, 7)", x.said(0, 7), 2);
        check.due("said(11, 0)", x.said(11, 0), 2);
        check.due("said(11, 7)", x.said(11, 7), 1);
    }

    private static void ayesAndNoes() {
        check.of("13 tally: ayes and noes of VOTERS, 0 to 8, his WEIGHT in neither, nor who is HUSHED");
        for (int ayes = 0; ayes <= 8; ayes++) {
            for (int noes = 0; ayes + noes <= 8; noes++) {
                FoolVotes x = ayesAndNoes(ayes, noes, 1, 9);
                check.due("ayes", x.tally(0, 0), ayes);
                check.due("noes", x.tally(0, 1), noes);
                x.event(2, 0, 0);
                check.due("ayes but the first", x.tally(0, 0), ayes > 0 ? ayes - 1 : 0);
                check.due("noes but the first", x.tally(0, 1), ayes == 0 && noes > 0 ? noes - 1 : noes);
            }
        }
    }

    private static void passed() {
        check.of("PASSED: ayes are more than noes, his WEIGHT (0 to 9) on his side; dead level is not PASSED");
        for (int ayes = 0; ayes <= 8; ayes++) {
            for (int noes = 0; ayes + noes <= 8; noes++) {
                for (int weight = 0; weight <= 9; weight++) {
                    boolean with = ayes + weight > noes;
                    boolean against = ayes > noes + weight;
                    String name = ayes + " to " + noes + ", weight " + weight;
                    check.due(name + " for", ayesAndNoes(ayes, noes, 1, weight).tally(0, 3), with ? 1 : 0);
                    check.due(name + " against", ayesAndNoes(ayes, noes, 0, weight).tally(0, 3), against ? 1 : 0);
                }
            }
        }
        check.of("PASSED: eight noes, and a WEIGHT of 8 and of 9");
        check.due("8", ayesAndNoes(0, 8, 1, 8).tally(0, 3), 0);
        check.due("9", ayesAndNoes(0, 8, 1, 9).tally(0, 3), 1);
        check.of("PASSED: eight ayes, and a WEIGHT of 7 and of 8 against them");
        check.due("7", ayesAndNoes(8, 0, 0, 7).tally(0, 3), 1);
        check.due("8", ayesAndNoes(8, 0, 0, 8).tally(0, 3), 0);
    }

    private static void decided() {
        check.of("DECIDED: without his WEIGHT it would have come out otherwise; never by a WEIGHT of 0");
        for (int ayes = 0; ayes <= 4; ayes++) {
            for (int noes = 0; noes <= 4; noes++) {
                for (int weight = 0; weight <= 9; weight++) {
                    String name = ayes + " to " + noes + ", weight " + weight;
                    boolean with = ayes <= noes && ayes + weight > noes;
                    boolean against = ayes > noes && ayes <= noes + weight;
                    check.due(name + " for", ayesAndNoes(ayes, noes, 1, weight).tally(0, 4), with ? 1 : 0);
                    check.due(name + " against", ayesAndNoes(ayes, noes, 0, weight).tally(0, 4), against ? 1 : 0);
                }
            }
        }
        check.of("DECIDED: dead level, he alone carries it by a WEIGHT of 1, and stops nothing");
        check.due("carries", ayesAndNoes(4, 4, 1, 1).tally(0, 4), 1);
        check.due("stops nothing", ayesAndNoes(4, 4, 0, 9).tally(0, 4), 0);
        check.of("DECIDED: not where he eats an APPLE");
        FoolVotes x = ayesAndNoes(4, 4, 1, 9);
        x.event(1, 0, 0);
        check.due("decided", x.tally(0, 4), 0);
    }

    private static void ends(String name, FoolVotes x, int voter, int... want) {
        for (int what = 0; what < 4; what++) {
            check.due(name + ": at(" + voter + ", " + what + ")", x.at(voter, what), want[what]);
        }
    }

    /** A steady one who LIKES a dog, before a fool who likes nothing: he always says otherwise on a1. */
    private static FoolVotes crossed(int grudge, String measures) {
        FoolVotes x = Check.canton("s1" + grudge, measures);
        x.fool(0, 0);
        return x;
    }

    private static void grudges() {
        check.of("14 at: without MEASURES one is as told");
        for (int grudge = 0; grudge < 3; grudge++) {
            ends("told " + grudge, crossed(grudge, ""), 0, 1, grudge, 0, 0);
        }
        check.of("GRUDGE: who said otherwise has 1 more; by a third one he turns, counted from what was told");
        ends("0, once", crossed(0, "a1"), 0, 1, 1, 0, 1);
        ends("0, twice", crossed(0, "a1;a1"), 0, 1, 2, 0, 2);
        ends("0, thrice", crossed(0, "a1;a1;a1"), 0, 6, 0, 1, 3);
        ends("1, once", crossed(1, "a1"), 0, 1, 2, 0, 1);
        ends("1, twice", crossed(1, "a1;a1"), 0, 6, 0, 1, 2);
        ends("2, once", crossed(2, "a1"), 0, 6, 0, 1, 1);
        check.of("GRUDGE: who said as it came out has none, whatever he had");
        for (int grudge = 0; grudge < 3; grudge++) {
            ends("told " + grudge, crossed(grudge, "a6"), 0, 1, 0, 0, 0);
        }
        ends("two, none, one", crossed(0, "a1;a1;a6;a1"), 0, 1, 1, 0, 3);
        check.of("GRUDGE: who was HUSHED stays as he was, 0 to 2");
        for (int grudge = 0; grudge < 3; grudge++) {
            FoolVotes otherwise = crossed(grudge, "a1");
            otherwise.event(2, 0, 0);
            ends("would say otherwise, told " + grudge, otherwise, 0, 1, grudge, 0, 0);
            FoolVotes so = crossed(grudge, "a6");
            so.event(2, 0, 0);
            ends("would say so, told " + grudge, so, 0, 1, grudge, 0, 0);
        }
        check.of("GRUDGE: dead level is not PASSED, so who said aye said otherwise");
        FoolVotes level = Check.canton("s10;s00", "a1");
        level.fool(1, 0);
        ends("who said aye", level, 0, 1, 1, 0, 1);
        ends("who said no", level, 1, 0, 0, 0, 0);
    }

    private static void coats() {
        check.of("COAT: all TRAITS (0 to 2) but those that he LIKED, 0 to 7");
        for (int likes = 1; likes < 8; likes++) {
            FoolVotes x = Check.canton("s" + likes + "2", "a" + likes);
            x.fool(0, 0);
            ends("turned from " + likes, x, 0, 7 - likes, 0, 1, 1);
        }
        FoolVotes none = Check.canton("s02", "a1");
        ends("turned from 0", none, 0, 7, 0, 1, 1);
        check.of("COAT: from then on, and he may turn again; the most that twelve MEASURES can turn");
        FoolVotes twice = crossed(2, "a1;b2;b2;b2;c1");
        ends("twice", twice, 0, 1, 1, 2, 5);
        check.due("as he was on the first", twice.said(0, 0), 1);
        check.due("otherwise on the second", twice.said(1, 0), 1);
        FoolVotes often = crossed(2, "a1;b2;b2;b2;c1;c1;c1;d2;d2;d2;e1;e1");
        ends("four times", often, 0, 1, 2, 4, 12);
        check.due("count(6)", often.count(6), 4);
        check.of("COAT: one who has turned within a YEAR says so on the next MEASURE of that YEAR");
        FoolVotes x = crossed(2, "a1;a1");
        check.due("first", x.said(0, 0), 1);
        check.due("next", x.said(1, 0), 0);
        check.of("36 count: 6 is COATS turned in all, of all VOTERS");
        FoolVotes all = Check.canton("s12;s12;s12;s12;s12;s12;s12;s12", "a1");
        all.fool(0, 0);
        all.fool(1, 9);
        check.due("eight turn", all.count(6), 8);
        check.due("nobody is true", all.loyal(), 0);
    }

    private static void sums() {
        check.of("15 sum: PASSED, DECIDED: 0 of none, up to all twelve");
        check.due("no measures: PASSED", new FoolVotes().sum(0), 0);
        check.due("no measures: DECIDED", new FoolVotes().sum(1), 0);
        FoolVotes x = Check.canton("", "a1;a1;a1;a1;a1;a1;b1;c1;d1;v1;w1;x1");
        check.due("all: PASSED", x.sum(0), 12);
        check.due("all: DECIDED", x.sum(1), 12);
        check.due("all: count(5)", x.count(5), 12);
        x.fool(0, 0);
        check.due("none: PASSED", x.sum(0), 0);
        check.due("none: DECIDED", x.sum(1), 0);
        check.due("none: count(5)", x.count(5), 0);
    }

    private static void level() {
        check.of("16 level: NONE without MEASURES, and where none is");
        check.due("no measures", Check.canton(EIGHT_AYES, "").level(), NONE);
        check.due("never", Check.canton("s10", "a1;b0;c6").level(), NONE);
        check.of("16 level: without VOTERS as many said aye as no, none");
        check.due("nobody", Check.canton("", "c1;b1;a1").level(), 2);
        check.of("16 level: the first by their turn, not the least");
        check.due("by turn", Check.canton("s10;s00", "x1;w1;b1;b1").level(), 2);
        check.of("16 level: of VOTERS, whatever THE FOOL does");
        FoolVotes x = ayesAndNoes(4, 4, 1, 9);
        check.due("four and four", x.level(), 0);
        x = ayesAndNoes(4, 3, 0, 1);
        check.due("level by his weight only", x.level(), NONE);
    }

    private static void loyal() {
        check.of("17 loyal: 0 without VOTERS, all eight as bits");
        check.due("nobody", Check.canton("", "a1").loyal(), 0);
        check.due("eight", Check.canton(EIGHT_AYES, "a1").loyal(), 255);
        check.of("17 loyal: who turned twice, and is what he was, is not TRUE");
        FoolVotes x = crossed(2, "a1;b2;b2;b2");
        check.due("LIKES what he did", x.at(0, 0), 1);
        check.due("not TRUE", x.loyal(), 0);
    }

    private static void bitter() {
        check.of("18 bitter: NONE: nobody ever; without VOTERS, without MEASURES");
        check.due("no voters", Check.canton("", "a1").bitter(), NONE);
        check.due("no measures", Check.canton("s12;s12", "").bitter(), NONE);
        check.due("all say so", Check.canton(EIGHT_AYES, "a1;b1").bitter(), NONE);
        check.of("18 bitter: once is enough; of like ones the least; the last of eight too");
        check.due("once", crossed(0, "a1").bitter(), 0);
        FoolVotes all = Check.canton(EIGHT_AYES, "a1;b1");
        all.fool(0, 0);
        all.fool(1, 9);
        check.due("like ones", all.bitter(), 0);
        FoolVotes last = Check.canton("s00;s00;s00;s00;s00;s00;s00;s10", "a1;b1");
        last.fool(0, 0);
        check.due("the last", last.bitter(), 7);
        check.of("18 bitter: counted over all, not by the GRUDGE that is left");
        // two: otherwise on a1 and b1, then turned; the other, told with 2, but only on c6
        FoolVotes x = Check.canton("s11;s62", "a1;b1;c6");
        x.fool(0, 0);
        x.fool(1, 9);
        check.due("otherwise: 0", x.at(0, 3), 3);
        check.due("otherwise: 1", x.at(1, 3), 1);
        check.due("bitter", x.bitter(), 0);
    }
}
