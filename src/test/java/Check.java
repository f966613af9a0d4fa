import java.util.ArrayList;
import java.util.List;

/** What every test of the project counts with. */
final class Check {
    private int asked;
    private int wrong;
    private int askedBefore;
    private String sentence = "";
    private final List<String> sentences = new ArrayList<>();

    /** A canton with these texts, whose letters and figures are typed one by one. */
    static FoolVotes canton(String voters, String measures) {
        FoolVotes x = new FoolVotes();
        typeAll(x, 0, voters);
        typeAll(x, 1, measures);
        return x;
    }

    static void typeAll(FoolVotes x, int text, String bytes) {
        for (int i = 0; i < bytes.length(); i++) {
            x.type(text, bytes.charAt(i));
        }
    }

    /** What follows is the test of this sentence of the document, up to the next one. */
    void of(String next) {
        closeSentence();
        sentence = next;
        sentences.add(next);
    }

    /** A sentence that nothing was asked about would be a test that can't fail. */
    private void closeSentence() {
        if (!sentence.isEmpty() && asked == askedBefore) {
            wrong++;
            System.out.println("nothing was asked about: " + sentence);
        }
        askedBefore = asked;
    }

    void due(String call, long got, long want) {
        asked++;
        if (got != want) {
            report(call + " answered " + got + ", due is " + want);
        }
    }

    /** A call as it is written, asked of x. */
    void due(FoolVotes x, String call, long want) {
        due(call, Ask.of(x, call), want);
    }

    void isTrue(String what, boolean holds) {
        due(what, holds ? 1 : 0, 1);
    }

    /** Two that are asked everything, and both are taken apart by it, must answer the same. */
    void alike(String name, FoolVotes x, FoolVotes y) {
        sameRows(name, Ask.everything(x), Ask.everything(y));
    }

    /** Two that are asked all that takes nothing apart must answer the same, but for the calls that are left out. */
    void alikeBut(String name, FoolVotes x, FoolVotes y, String... leftOut) {
        sameRows(name, Ask.questions(x, leftOut), Ask.questions(y, leftOut));
    }

    private void sameRows(String name, List<String> mine, List<String> others) {
        asked++;
        for (int i = 0; i < Math.max(mine.size(), others.size()); i++) {
            String a = i < mine.size() ? mine.get(i) : "nothing more";
            String b = i < others.size() ? others.get(i) : "nothing more";
            if (!a.equals(b)) {
                report(name + ": " + a + ", its twin: " + b);
                return;
            }
        }
    }

    private void report(String text) {
        wrong++;
        if (wrong <= 50) {
            System.out.println((sentence.isEmpty() ? "" : "[" + sentence + "] ") + text);
        }
    }

    void end(String test) {
        closeSentence();
        String told = sentences.isEmpty() ? "" : sentences.size() + " sentences, ";
        System.out.println(test + ": " + told + asked + " answers, " + wrong + " wrong");
        if (wrong > 0) {
            System.exit(1);
        }
    }
}
