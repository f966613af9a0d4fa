import java.util.ArrayList;
import java.util.HashMap;
import java.util.List;
import java.util.Map;

/**
 * The document once more, told as plainly as Java's library lets it be: nothing is kept but what was told, every answer
 * is worked out anew. ModelTest sets FoolVotes beside it.
 */
final class PlainModel {
    record Voter(char sort, int likes, int grudge) { }

    record Measure(int year, int traits) { }

    record Event(int kind, int year, int number) { }

    record Seen(int measure, int is) { }

    record Row(int form, int[] items) { }

    /** What is told, and may be told otherwise for a question. */
    static final class World {
        List<Voter> voters = new ArrayList<>();
        List<Measure> measures = new ArrayList<>();
        List<Event> events = new ArrayList<>();
        List<Integer> places = new ArrayList<>();
        int foolLikes;
        int weight;

        World twin() {
            World w = new World();
            w.voters.addAll(voters);
            w.measures.addAll(measures);
            w.events.addAll(events);
            w.places.addAll(places);
            w.foolLikes = foolLikes;
            w.weight = weight;
            return w;
        }
    }

    /** How it came out. */
    static final class Story {
        Map<Integer, Map<Integer, Integer>> said = new HashMap<>();
        Map<Integer, Integer> ayes = new HashMap<>();
        Map<Integer, Integer> noes = new HashMap<>();
        Map<Integer, Integer> foolDid = new HashMap<>();
        Map<Integer, Boolean> passed = new HashMap<>();
        Map<Integer, Boolean> decided = new HashMap<>();
        List<Integer> turns = new ArrayList<>();
        int[] likes;
        int[] grudge;
        int[] coats;
        int[] otherwise;

        int passedInAll() {
            return (int) passed.values().stream().filter(p -> p).count();
        }

        int coatsInAll() {
            return java.util.Arrays.stream(coats).sum();
        }
    }

    String[] texts = {"", ""};
    List<Event> events = new ArrayList<>();
    List<Seen> seen = new ArrayList<>();
    Row[] rows = new Row[4];
    int foolLikes = 1;
    int weight = 3;
    int finding = 0;

    static final String[] WHOLE = {"[swm][0-7][0-2](;[swm][0-7][0-2]){0,7}", "[a-x][0-7](;[a-x][0-7]){0,11}"};
    static final String[] HOPEFUL = {"s00;s00;s00;s00;s00;s00;s00;s00", "a0;a0;a0;a0;a0;a0;a0;a0;a0;a0;a0;a0"};

    static boolean in(int x, int from, int to) {
        return from <= x && x <= to;
    }

    static int yes(boolean b) {
        return b ? 1 : 0;
    }

    int fault(int text) {
        if (!in(text, 0, 1)) {
            return -2;
        }
        String t = texts[text];
        for (int i = 1; i <= t.length(); i++) {
            // a beginning can go on if the rest of a well text behind it makes it well
            String tried = t.substring(0, i) + (i <= HOPEFUL[text].length() ? HOPEFUL[text].substring(i) : "");
            if (!tried.matches(WHOLE[text])) {
                return i - 1;
            }
        }
        return t.isEmpty() || t.matches(WHOLE[text]) ? -1 : t.length();
    }

    World world() {
        World w = new World();
        if (fault(0) == -1 && !texts[0].isEmpty()) {
            for (String v : texts[0].split(";")) {
                w.places.add(w.voters.size());
                w.voters.add(new Voter(v.charAt(0), v.charAt(1) - '0', v.charAt(2) - '0'));
            }
        }
        if (fault(1) == -1 && !texts[1].isEmpty()) {
            for (String m : texts[1].split(";")) {
                w.measures.add(new Measure(m.charAt(0) - 'a', m.charAt(1) - '0'));
            }
        }
        w.events.addAll(events);
        w.foolLikes = foolLikes;
        w.weight = weight;
        return w;
    }

    static boolean isFor(int likes, int traits) {
        int balance = 0;
        for (int t = 1; t <= 4; t *= 2) {
            if ((traits & t) != 0) {
                balance += (likes & t) != 0 ? 1 : -1;
            }
        }
        return balance > 0;
    }

    static Story story(World w) {
        Story s = new Story();
        int n = w.voters.size();
        s.likes = w.voters.stream().mapToInt(Voter::likes).toArray();
        s.grudge = w.voters.stream().mapToInt(Voter::grudge).toArray();
        s.coats = new int[n];
        s.otherwise = new int[n];
        for (int year = 0; year <= 23; year++) {
            for (int m = 0; m < w.measures.size(); m++) {
                if (w.measures.get(m).year() == year) {
                    vote(w, s, m, year);
                }
            }
        }
        return s;
    }

    static void vote(World w, Story s, int m, int year) {
        s.turns.add(m);
        int traits = w.measures.get(m).traits();
        boolean apple = false;
        List<Integer> hushed = new ArrayList<>();
        for (Event e : w.events) {
            if (e.year() == year) {
                traits = e.kind() == 0 ? traits | 1 : traits;
                apple = apple || e.kind() == 1;
                if (e.kind() == 2) {
                    hushed.add(e.number());
                }
            }
        }
        List<Boolean> words = new ArrayList<>();
        Map<Integer, Integer> said = new HashMap<>();
        for (int v : w.places) {
            if (hushed.contains(v)) {
                said.put(v, 2);
                continue;
            }
            boolean word = isFor(s.likes[v], traits);
            long aye = words.stream().filter(x -> x).count();
            long no = words.size() - aye;
            char sort = w.voters.get(v).sort();
            if (sort == 'w' && !words.isEmpty()) {
                word = words.get(words.size() - 1);
            }
            if (sort == 'm' && aye != no) {
                word = aye > no;
            }
            words.add(word);
            said.put(v, yes(word));
        }
        int ayes = (int) words.stream().filter(x -> x).count();
        int noes = words.size() - ayes;
        boolean foolFor = isFor(w.foolLikes, traits);
        boolean passed = ayes + (!apple && foolFor ? w.weight : 0) > noes + (!apple && !foolFor ? w.weight : 0);
        s.said.put(m, said);
        s.ayes.put(m, ayes);
        s.noes.put(m, noes);
        s.foolDid.put(m, apple ? 2 : yes(foolFor));
        s.passed.put(m, passed);
        s.decided.put(m, passed != (ayes > noes));
        for (int v = 0; v < s.likes.length; v++) {
            if (said.get(v) == 2) {
                continue;
            }
            if (said.get(v) == yes(passed)) {
                s.grudge[v] = 0;
                continue;
            }
            s.otherwise[v]++;
            s.grudge[v]++;
            if (s.grudge[v] == 3) {
                s.grudge[v] = 0;
                s.coats[v]++;
                s.likes[v] = 7 - s.likes[v];
            }
        }
    }

    int type(int text, int b) {
        if (!in(text, 0, 1) || !in(b, 0, 255)) {
            return -2;
        }
        if (texts[text].length() == (text == 0 ? 31 : 35)) {
            return -4;
        }
        texts[text] += (char) b;
        return texts[text].length();
    }

    int wipe(int text) {
        if (!in(text, 0, 1)) {
            return -2;
        }
        int had = texts[text].length();
        texts[text] = "";
        return had;
    }

    int undo(int text) {
        if (!in(text, 0, 1)) {
            return -2;
        }
        if (texts[text].isEmpty()) {
            return -3;
        }
        texts[text] = texts[text].substring(0, texts[text].length() - 1);
        return texts[text].length();
    }

    int voter(int voter, int what) {
        List<Voter> all = world().voters;
        if (!in(voter, 0, all.size() - 1) || !in(what, 0, 2)) {
            return -2;
        }
        Voter v = all.get(voter);
        return new int[] {"swm".indexOf(v.sort()), v.likes(), v.grudge()}[what];
    }

    int measure(int measure, int what) {
        List<Measure> all = world().measures;
        if (!in(measure, 0, all.size() - 1) || !in(what, 0, 1)) {
            return -2;
        }
        return what == 0 ? all.get(measure).year() : all.get(measure).traits();
    }

    int fool(int what, int v) {
        if (!in(what, 0, 1) || !in(v, 0, what == 0 ? 7 : 9)) {
            return -2;
        }
        int was = what == 0 ? foolLikes : weight;
        foolLikes = what == 0 ? v : foolLikes;
        weight = what == 1 ? v : weight;
        return was;
    }

    int event(int kind, int year, int number) {
        if (!in(kind, 0, 2) || !in(year, 0, 23) || !in(number, 0, 7)) {
            return -2;
        }
        if (events.size() == 8) {
            return -4;
        }
        events.add(new Event(kind, year, number));
        return events.size();
    }

    int back() {
        if (events.isEmpty()) {
            return -3;
        }
        events.remove(events.size() - 1);
        return events.size();
    }

    int finding(int number) {
        finding = number;
        return -10 - number;
    }

    int read(int s) {
        if (!in(s, 0, 3)) {
            return -2;
        }
        if (rows[s] == null) {
            return finding(1);
        }
        int[] items = rows[s].items();
        int n = 0;
        for (int i = 0; i + 3 <= items.length; i += 3) {
            if (event(items[i], items[i + 1], items[i + 2]) < 0) {
                return n;
            }
            n++;
        }
        return n;
    }

    int said(int measure, int voter) {
        World w = world();
        if (!in(measure, 0, w.measures.size() - 1) || !in(voter, 0, w.voters.size() - 1)) {
            return -2;
        }
        return story(w).said.get(measure).get(voter);
    }

    int tally(int measure, int what) {
        World w = world();
        if (!in(measure, 0, w.measures.size() - 1) || !in(what, 0, 4)) {
            return -2;
        }
        Story s = story(w);
        return new int[] {s.ayes.get(measure), s.noes.get(measure), s.foolDid.get(measure), yes(s.passed.get(measure)),
            yes(s.decided.get(measure))}[what];
    }

    int at(int voter, int what) {
        World w = world();
        if (!in(voter, 0, w.voters.size() - 1) || !in(what, 0, 3)) {
            return -2;
        }
        Story s = story(w);
        return new int[][] {s.likes, s.grudge, s.coats, s.otherwise}[what][voter];
    }

    int sum(int what) {
        if (!in(what, 0, 1)) {
            return -2;
        }
        Story s = story(world());
        return what == 0 ? s.passedInAll() : (int) s.decided.values().stream().filter(d -> d).count();
    }

    int level() {
        Story s = story(world());
        return s.turns.stream().filter(m -> s.ayes.get(m).equals(s.noes.get(m))).findFirst().orElse(-1);
    }

    int loyal() {
        Story s = story(world());
        int bits = 0;
        for (int v = 0; v < s.coats.length; v++) {
            bits += s.coats[v] == 0 ? 1 << v : 0;
        }
        return bits;
    }

    int bitter() {
        Story s = story(world());
        int most = java.util.Arrays.stream(s.otherwise).max().orElse(0);
        for (int v = 0; v < s.otherwise.length && most > 0; v++) {
            if (s.otherwise[v] == most) {
                return v;
            }
        }
        return -1;
    }

    int put(int measure, int what) {
        World w = world();
        if (!in(measure, 0, w.measures.size() - 1) || !in(what, 0, 1)) {
            return -2;
        }
        int was = w.measures.get(measure).traits();
        for (int changed = 0; changed <= 3; changed++) {
            for (int t = 0; t < 8; t++) {
                World tried = w.twin();
                tried.measures.set(measure, new Measure(w.measures.get(measure).year(), t));
                if (Integer.bitCount(t ^ was) == changed && story(tried).passed.get(measure)) {
                    return what == 0 ? t : changed;
                }
            }
        }
        return -1;
    }

    int swap(int what) {
        if (!in(what, 0, 2)) {
            return -2;
        }
        World w = world();
        int n = w.voters.size();
        for (int passed = w.measures.size(); passed >= 0; passed--) {
            for (int a = 0; a < n; a++) {
                for (int b = a + 1; b < n; b++) {
                    World tried = w.twin();
                    java.util.Collections.swap(tried.places, a, b);
                    if (story(tried).passedInAll() == passed) {
                        return new int[] {a, b, passed}[what];
                    }
                }
            }
        }
        return -1;
    }

    World withHeart(int likes) {
        World w = world();
        w.foolLikes = likes;
        return w;
    }

    int wish(int what) {
        if (!in(what, 0, 1)) {
            return -2;
        }
        for (int passed = 12; passed >= 0; passed--) {
            for (int likes = 0; likes < 8; likes++) {
                if (story(withHeart(likes)).passedInAll() == passed) {
                    return what == 0 ? likes : passed;
                }
            }
        }
        throw new IllegalStateException();
    }

    World without(List<Integer> spared) {
        World w = world();
        List<Event> left = new ArrayList<>();
        for (int e = 0; e < w.events.size(); e++) {
            if (!spared.contains(e)) {
                left.add(w.events.get(e));
            }
        }
        w.events = left;
        return w;
    }

    int spare(int i) {
        if (!in(i, -1, 1)) {
            return -2;
        }
        List<List<Integer>> rowsToTry = new ArrayList<>();
        rowsToTry.add(List.of());
        for (int a = 0; a < events.size(); a++) {
            rowsToTry.add(List.of(a));
        }
        for (int a = 0; a < events.size(); a++) {
            for (int b = a + 1; b < events.size(); b++) {
                rowsToTry.add(List.of(a, b));
            }
        }
        for (List<Integer> row : rowsToTry) {
            if (story(without(row)).coatsInAll() == 0) {
                return i == -1 ? row.size() : i < row.size() ? row.get(i) : -1;
            }
        }
        return -1;
    }

    int seen(int measure, int is) {
        if (!in(measure, 0, 11) || !in(is, 0, 1)) {
            return -2;
        }
        if (seen.size() == 8) {
            return -4;
        }
        seen.add(new Seen(measure, is));
        return seen.size();
    }

    int forget() {
        int had = seen.size();
        seen.clear();
        return had;
    }

    boolean comesOutSo(World w) {
        Story s = story(w);
        return seen.stream().allMatch(x -> s.passed.containsKey(x.measure()) && yes(s.passed.get(x.measure())) == x.is());
    }

    int might(int what) {
        if (!in(what, 0, 1)) {
            return -2;
        }
        int bits = 0;
        for (int k = 0; k < (what == 0 ? events.size() : 8); k++) {
            bits += comesOutSo(what == 0 ? without(List.of(k)) : withHeart(k)) ? 1 << k : 0;
        }
        return bits;
    }

    int was(int voter, int what) {
        World w = world();
        if (!in(voter, 0, w.voters.size() - 1) || !in(what, 0, 1)) {
            return -2;
        }
        Voter v = w.voters.get(voter);
        int bits = 0;
        for (int k = 0; k < (what == 0 ? 8 : 3); k++) {
            World tried = w.twin();
            tried.voters.set(voter, what == 0 ? new Voter(v.sort(), k, v.grudge())
                : new Voter("swm".charAt(k), v.likes(), v.grudge()));
            bits += comesOutSo(tried) ? 1 << k : 0;
        }
        return bits;
    }

    int ask() {
        int hearts = might(1);
        int best = -1;
        int least = 99;
        for (int m = 0; m < world().measures.size(); m++) {
            int[] alike = new int[2];
            for (int k = 0; k < 8; k++) {
                if ((hearts >> k & 1) == 1) {
                    alike[yes(story(withHeart(k)).passed.get(m))]++;
                }
            }
            if (Math.max(alike[0], alike[1]) < least) {
                least = Math.max(alike[0], alike[1]);
                best = m;
            }
        }
        return best;
    }

    long chance(int c, int measure, int what) {
        if (!in(c, 0, 16) || !in(measure, 0, world().measures.size() - 1) || !in(what, 0, 1)) {
            return Long.MIN_VALUE + 2;
        }
        java.math.BigInteger above = java.math.BigInteger.ZERO;
        for (int set = 0; set < 1 << events.size(); set++) {
            List<Integer> gone = new ArrayList<>();
            java.math.BigInteger part = java.math.BigInteger.ONE;
            for (int e = 0; e < events.size(); e++) {
                boolean is = (set >> e & 1) == 1;
                part = part.multiply(java.math.BigInteger.valueOf(is ? c : 16 - c));
                if (!is) {
                    gone.add(e);
                }
            }
            if (part.signum() > 0 && story(without(gone)).passed.get(measure)) {
                above = above.add(part);
            }
        }
        java.math.BigInteger below = java.math.BigInteger.valueOf(16).pow(events.size());
        return (what == 0 ? above : below).divide(above.gcd(below)).longValueExact();
    }

    int ages(int seed, int n, int what) {
        if (!in(n, 0, 12) || !in(what, 0, 1)) {
            return -2;
        }
        World w = world();
        w.measures.clear();
        int s = seed;
        for (int i = 0; i < n; i++) {
            s = s * 1103515245 + 12345;
            int year = (s >> 16 & 65535) % 24;
            s = s * 1103515245 + 12345;
            w.measures.add(new Measure(year, (s >> 16 & 65535) % 8));
        }
        Story story = story(w);
        return what == 0 ? story.passedInAll() : story.coatsInAll();
    }

    int sheet(int s, int form, int n) {
        if (!in(s, 0, 3) || !in(form, 0, 2) || n > 60) {
            return -2;
        }
        if (n < 0) {
            return finding(5);
        }
        rows[s] = new Row(form, new int[n]);
        return n;
    }

    int lose(int s) {
        if (!in(s, 0, 3)) {
            return -2;
        }
        if (rows[s] == null) {
            return finding(1);
        }
        int had = rows[s].items().length;
        rows[s] = null;
        return had;
    }

    static int narrowed(int form, int v) {
        return form == 0 ? (byte) v : form == 1 ? (short) v : v;
    }

    int refused(int s, int form, int i) {
        if (!in(s, 0, 3) || !in(form, 0, 2)) {
            return -2;
        }
        if (rows[s] == null) {
            return finding(1);
        }
        if (rows[s].form() != form) {
            return finding(3);
        }
        return in(i, 0, rows[s].items().length - 1) ? 0 : finding(2);
    }

    int lay(int s, int form, int i, int v) {
        int r = refused(s, form, i);
        if (r == 0) {
            rows[s].items()[i] = narrowed(form, v);
        }
        return r == 0 ? 1 : r;
    }

    int get(int s, int form, int i) {
        return refused(s, form, i) == 0 ? rows[s].items()[i] : Integer.MIN_VALUE;
    }

    int copy(int s, int i, int t, int j, int n) {
        if (!in(s, 0, 3) || !in(t, 0, 3)) {
            return -2;
        }
        if (rows[s] == null || rows[t] == null) {
            return finding(1);
        }
        if (rows[s].form() != rows[t].form()) {
            return finding(4);
        }
        if (i < 0 || j < 0 || n < 0 || (long) i + n > rows[s].items().length || (long) j + n > rows[t].items().length) {
            return finding(2);
        }
        int[] were = rows[s].items().clone();
        for (int k = 0; k < n; k++) {
            rows[t].items()[j + k] = were[i + k];
        }
        return 1;
    }

    int write(int s) {
        if (!in(s, 0, 3)) {
            return -2;
        }
        if (rows[s] == null) {
            return finding(1);
        }
        World w = world();
        Story story = story(w);
        int n = 0;
        while (n < w.measures.size() && n < rows[s].items().length) {
            rows[s].items()[n] = story.ayes.get(n) - story.noes.get(n);
            n++;
        }
        return n;
    }

    int count(int what) {
        World w = world();
        if (!in(what, 0, 8)) {
            return -2;
        }
        return new int[] {w.voters.size(), w.measures.size(), texts[0].length(), texts[1].length(), events.size(),
            story(w).passedInAll(), story(w).coatsInAll(), seen.size(), finding}[what];
    }

    long digest() {
        List<Long> each = new ArrayList<>();
        for (int what = 0; what <= 7; what++) {
            each.add((long) count(what));
        }
        each.add((long) fault(0));
        each.add((long) fault(1));
        World w = world();
        for (int m = 0; m < w.measures.size(); m++) {
            add(each, measure(m, 0), measure(m, 1), tally(m, 0), tally(m, 1), tally(m, 2), tally(m, 3), tally(m, 4));
            add(each, put(m, 0), put(m, 1), chance(5, m, 0), chance(5, m, 1));
            for (int v = 0; v < w.voters.size(); v++) {
                each.add((long) said(m, v));
            }
        }
        for (int v = 0; v < w.voters.size(); v++) {
            add(each, voter(v, 0), voter(v, 1), voter(v, 2), at(v, 0), at(v, 1), at(v, 2), at(v, 3), was(v, 0), was(v, 1));
        }
        add(each, sum(0), sum(1), level(), loyal(), bitter(), swap(0), swap(1), swap(2), wish(0), wish(1));
        add(each, spare(-1), spare(0), might(0), might(1), ask(), ages(7, 9, 0), ages(7, 9, 1));
        return each.stream().reduce(17L, (h, e) -> 31 * h + e);
    }

    private static void add(List<Long> each, long... more) {
        for (long m : more) {
            each.add(m);
        }
    }
}
