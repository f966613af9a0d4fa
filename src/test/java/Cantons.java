/** Cantons in which refusals and edges are tried; nothing in their making is a FINDING. */
final class Cantons {
    static final String EIGHT = "s12;w20;m61;s71;w02;m11;s32;m72";
    static final String TWELVE = "a1;b4;c0;a7;x3;b2;b3;c5;d6;x1;e7;w3";

    private Cantons() { }

    static FoolVotes make(String kind) {
        switch (kind) {
            case "new":
                return new FoolVotes();
            case "ordinary":
                return ordinary();
            case "full":
                return full();
            case "faulty":
                return faulty();
            default:
                throw new IllegalArgumentException(kind);
        }
    }

    /** Three VOTERS, four MEASURES, three EVENTS, two SEEN; SHEETS of 6 bytes, 4 shorts, 9 ints, the last is LOST. */
    static FoolVotes ordinary() {
        FoolVotes x = Check.canton("s12;w60;m31", "a1;c6;b3;a4");
        x.fool(0, 5);
        x.fool(1, 2);
        x.event(1, 0, 0);
        x.event(0, 2, 0);
        x.event(2, 1, 1);
        x.seen(0, 1);
        x.seen(2, 0);
        layRow(x, 0, 0, 5, 6, 7, 8, 9, 10);
        layRow(x, 1, 1, -300, 2, 1000, 4);
        layRow(x, 2, 2, 1, 5, 0, 2, 0, 3, 70000, -1, 1 << 31);
        return x;
    }

    /** As much of everything as there may be; SHEETS of 60 bytes, shorts, ints, the last has no items. */
    static FoolVotes full() {
        FoolVotes x = Check.canton(EIGHT, TWELVE);
        x.fool(0, 6);
        x.fool(1, 9);
        for (int e = 0; e < 8; e++) {
            x.event(e % 3, e / 2, e);
            x.seen(e, e % 2);
        }
        for (int s = 0; s < 3; s++) {
            x.sheet(s, s, 60);
            x.lay(s, s, 59, 9);
        }
        x.sheet(3, 0, 0);
        return x;
    }

    /** Both texts have a FAULT; SHEETS are LOST. */
    static FoolVotes faulty() {
        FoolVotes x = Check.canton("s12;w60;", "a1;c6;b");
        x.event(1, 0, 0);
        x.seen(0, 1);
        return x;
    }

    static void layRow(FoolVotes x, int s, int form, int... items) {
        x.sheet(s, form, items.length);
        for (int i = 0; i < items.length; i++) {
            x.lay(s, form, i, items[i]);
        }
    }
}
