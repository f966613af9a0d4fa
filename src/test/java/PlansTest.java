/** Promises 19 to 22: how a measure had better be put, who had better change places, and so on. */
public final class PlansTest {
    private static final Check check = new Check();

    public static void main(String[] args) {
        put();
        swap();
        swapMovesPlacesAlone();
        wish();
        spare();
        nothingChanges();
        check.end("PlansTest");
    }

    private static void put(String name, FoolVotes x, int measure, int which, int howMany) {
        check.due(name + ": put(" + measure + ", 0)", x.put(measure, 0), which);
        check.due(name + ": put(" + measure + ", 1)", x.put(measure, 1), howMany);
    }

    private static void put() {
        put("as told", Check.canton("", "a1"), 0, 1, 0);
        put("a dog more", Check.canton("", "a0"), 0, 1, 1);
        put("two otherwise", Check.canton("", "a2"), 0, 1, 2);
        put("three otherwise", Check.canton("", "a6"), 0, 1, 3);
        FoolVotes all = Check.canton("", "a7;a6");
        all.fool(0, 7);
        put("the nearest, behind farther ones", all, 0, 7, 0);
        put("the nearest, behind farther ones", all, 1, 6, 0);
        FoolVotes wide = Check.canton("", "a0");
        wide.fool(0, 6);
        put("of like ones the least", wide, 0, 2, 1);
        FoolVotes seven = Check.canton("", "a1;a5");
        seven.fool(0, 6);
        put("1 and 6: 7 is the nearest but 2 ahead is as near", seven, 0, 2, 2);
        put("5 and 6: 4 or 7, the least", seven, 1, 4, 1);
        FoolVotes none = Check.canton("s00", "a1;a0");
        none.fool(0, 0);
        put("by none", none, 0, FoolVotes.NONE, FoolVotes.NONE);
        FoolVotes dog = Check.canton("", "a0");
        dog.event(0, 0, 0);
        put("the dog is there already", dog, 0, 0, 0);
        // measure 0 turns his coat (told with 2), measure 1 is put behind that
        FoolVotes turned = Check.canton("s12", "a1;b0");
        turned.fool(0, 0);
        turned.fool(1, 0);
        turned.event(1, 0, 0);
        put("no grudge, no coat", turned, 1, 1, 1);
        turned = Check.canton("s12;s00;s00", "a1;b0");
        turned.fool(1, 0);
        put("the steady two stop it", turned, 1, FoolVotes.NONE, FoolVotes.NONE);
        turned = Check.canton("s12;s00;s00", "a1;b0");
        turned.fool(0, 0);
        turned.event(2, 1, 1);
        turned.event(2, 1, 2);
        turned.event(1, 1, 0);
        put("what he likes by then", turned, 1, 2, 1);
        FoolVotes x = Check.canton("s10", "a1");
        check.due("put(1, 0)", x.put(1, 0), FoolVotes.BAD);
        check.due("put(-1, 0)", x.put(-1, 0), FoolVotes.BAD);
        check.due("put(0, 2)", x.put(0, 2), FoolVotes.BAD);
        check.due("put(0, -1)", x.put(0, -1), FoolVotes.BAD);
    }

    private static void swap(String name, FoolVotes x, int first, int other, int howMany) {
        check.due(name + ": swap(0)", x.swap(0), first);
        check.due(name + ": swap(1)", x.swap(1), other);
        check.due(name + ": swap(2)", x.swap(2), howMany);
    }

    private static void swap() {
        swap("nobody", Check.canton("", "a1"), -1, -1, -1);
        swap("one", Check.canton("s10", "a1"), -1, -1, -1);
        swap("two, no measures", Check.canton("s10;s00", ""), 0, 1, 0);
        swap("of like ones the least row", Check.canton("s10;s10;s10", "a1"), 0, 1, 1);
        // no, and two that say so after him: only the aye in front makes ayes
        FoolVotes x = Check.canton("s00;w00;w00;s10", "a1");
        x.fool(1, 0);
        check.due("before", x.sum(0), 0);
        swap("the aye in front", x, 0, 3, 1);
        // it is best as told, but two have to change: each pair makes the weathercock say no
        FoolVotes y = Check.canton("s10;w00;s00", "a1");
        y.fool(1, 0);
        check.due("before", y.sum(0), 1);
        swap("worse than as told", y, 0, 1, 0);
        check.due("swap(3)", x.swap(3), FoolVotes.BAD);
        check.due("swap(-1)", x.swap(-1), FoolVotes.BAD);
        check.due("swap(3) of one", Check.canton("s10", "a1").swap(3), FoolVotes.BAD);
    }

    private static void swapMovesPlacesAlone() {
        // voter 0 is hushed wherever he speaks: his own number goes with him, not his place
        FoolVotes x = Check.canton("s00;w00;s10", "a1");
        x.fool(1, 0);
        x.event(2, 0, 0);
        check.due("before: w says no, s aye", x.sum(0), 0);
        swap("the steady aye ahead of the weathercock", x, 0, 2, 1);
    }

    private static void wish(String name, FoolVotes x, int which, int howMany) {
        check.due(name + ": wish(0)", x.wish(0), which);
        check.due(name + ": wish(1)", x.wish(1), howMany);
    }

    private static void wish() {
        wish("no measures", new FoolVotes(), 0, 0);
        wish("1 alone", Check.canton("", "a1"), 1, 1);
        wish("4 and 2", Check.canton("", "a4;b2"), 6, 2);
        wish("a trait and what is without it", Check.canton("", "a1;b6"), 3 + 4, 2);
        FoolVotes apple = Check.canton("", "a4");
        apple.event(1, 0, 0);
        wish("an apple", apple, 0, 0);
        wish("0 serves as well", Check.canton("s10;s10;s10;s10", "a1"), 0, 1);
        FoolVotes light = Check.canton("s00", "a1");
        light.fool(1, 1);
        wish("too light", light, 0, 0);
        FoolVotes x = Check.canton("", "a1");
        check.due("wish(2)", x.wish(2), FoolVotes.BAD);
        check.due("wish(-1)", x.wish(-1), FoolVotes.BAD);
    }

    private static void spare(String name, FoolVotes x, int howMany, int first, int other) {
        check.due(name + ": spare(NONE)", x.spare(FoolVotes.NONE), howMany);
        check.due(name + ": spare(0)", x.spare(0), first);
        check.due(name + ": spare(1)", x.spare(1), other);
    }

    private static void spare() {
        spare("nothing at all", new FoolVotes(), 0, -1, -1);
        // the fool (1) carries a1 past the voter; with an apple the ten noes of others stop it
        FoolVotes x = Check.canton("s12;s00;s00", "a1;b1");
        spare("nobody turns", x, 0, -1, -1);
        x.event(0, 5, 0);
        x.event(1, 0, 0);
        spare("the apple", x, 1, 1, -1);
        // a second apple in the year does as much: both must go
        x.event(1, 0, 3);
        spare("two apples", x, 2, 1, 2);
        x.event(1, 0, 4);
        spare("three apples: by none", x, -1, -1, -1);
        x.back();
        x.back();
        x.back();
        x.back();
        x.event(1, 0, 0);
        x.event(0, 5, 0);
        spare("the least one", x, 1, 0, -1);
        check.due("spare(2)", x.spare(2), FoolVotes.BAD);
        check.due("spare(-2)", x.spare(-2), FoolVotes.BAD);
        // a coat that no event turns
        FoolVotes y = Check.canton("s12", "a1");
        y.fool(0, 0);
        y.event(0, 0, 0);
        spare("by none", y, -1, -1, -1);
        check.due("spare(2) by none", y.spare(2), FoolVotes.BAD);
        FoolVotes apples = Check.canton("s12;s00;s00", "a1");
        apples.event(1, 0, 0);
        apples.event(0, 3, 0);
        apples.event(1, 0, 0);
        spare("the first and the third", apples, 2, 0, 2);
        // either of two events that only together turn him: the least
        FoolVotes z = Check.canton("s11;s00;s00", "a1;b1");
        z.event(1, 1, 0);
        z.event(1, 0, 0);
        spare("either", z, 1, 0, -1);
    }

    private static void nothingChanges() {
        FoolVotes x = Check.canton("s12;w20;m61", "a1;c3;b6");
        x.event(1, 2, 0);
        long before = x.digest();
        x.put(1, 0);
        x.swap(0);
        x.wish(0);
        x.spare(0);
        x.might(0);
        x.might(1);
        x.was(1, 0);
        x.was(1, 1);
        x.ask();
        x.chance(3, 1, 0);
        x.ages(4, 12, 1);
        check.due("questions change nothing", x.digest(), before);
        check.due("fool likes", x.fool(0, 1), 1);
    }
}
