/** What every test of the project counts with. */
final class Check {
    private int asked;
    private int wrong;

    /** A canton with these texts, whose letters and figures are typed one by one. */
    static FoolVotes canton(String voters, String measures) {
        FoolVotes x = new FoolVotes();
        typeAll(x, 0, voters);
        typeAll(x, 1, measures);
        return x;
    }

    static void typeAll(FoolVotes x, int text, String bytes) {
        for (int i = 0; i < bytes.length(); i++) {
            x.type(text, bytes.charAt(i));
        }
    }

    void due(String call, long got, long want) {
        asked++;
        if (got != want) {
            wrong++;
            if (wrong <= 50) {
                System.out.println(call + " answered " + got + ", due is " + want);
            }
        }
    }

    void isTrue(String what, boolean holds) {
        due(what, holds ? 1 : 0, 1);
    }

    void end(String test) {
        System.out.println(test + ": " + asked + " answers, " + wrong + " wrong");
        if (wrong > 0) {
            System.exit(1);
        }
    }
}
