import java.util.Arrays;

/**
 * A canton where everybody votes out loud but one man, the fool.
 * The words in capitals are those of the document, ../shared/DOC.md.
 */
public final class FoolVotes {
    public static final int NONE = -1, BAD = -2, NOT = -3, FULL = -4;

    private static final int LEAST_INT = -2147483648;
    private static final long LEAST_LONG = -9223372036854775808L;

    private static final int NULL_FOUND = 1, INDEX_FOUND = 2, CAST_FOUND = 3, STORE_FOUND = 4, SIZE_FOUND = 5;

    private static final int MOST_VOTERS = 8, MOST_MEASURES = 12, MOST_EVENTS = 8, MOST_SEEN = 8;
    private static final int YEARS = 24, KINDS_OF_TRAITS = 8, SORTS = 3, SIXTEEN = 16;
    private static final int ALL_TRAITS = 7, ALL_EVENTS = 255;
    /** These many bytes hold just 8 VOTERS and 12 MEASURES: a ninth, a thirteenth can't even begin. */
    private static final int VOTER_BYTES = 31, MEASURE_BYTES = 35;
    private static final int VOTER_STEP = 4, MEASURE_STEP = 3;
    private static final int SHEETS = 4, FORMS = 3, MOST_ITEMS = 60;
    private static final int NOBODY_KNOWS = -1, COAT_BIT = 4096;

    private final Text voterText = new Text(new int[VOTER_BYTES]);
    private final Text measureText = new Text(new int[MEASURE_BYTES]);
    private final Canton told = new Canton();
    private final Votes votes = new Votes();
    private final Canton trial = new Canton();
    private final Votes tried = new Votes();
    private final int[] seenMeasure = new int[MOST_SEEN];
    private final int[] seenIs = new int[MOST_SEEN];
    private final int[] passedByHeart = new int[KINDS_OF_TRAITS];
    /** By the set of EVENTS that are: what is PASSED, as bits, and COAT_BIT; NOBODY_KNOWS before it was asked. */
    private final int[] outcomes = new int[ALL_EVENTS + 1];
    private final Sheets sheets = new Sheets();
    private int seenCount;
    private int latestFinding;
    private boolean outcomesStale = true;

    public FoolVotes() {
        told.foolLikes = 1;
        told.weight = 3;
    }

    // ---- voters, measures, the fool, events

    public int type(int text, int b) {
        if (!below(text, 2) || !below(b, 256)) {
            return BAD;
        }
        Text t = textOf(text);
        if (t.length >= t.bytes.length) {
            return FULL;
        }
        t.bytes[t.length] = b;
        t.length++;
        retell();
        return t.length;
    }

    public int wipe(int text) {
        if (!below(text, 2)) {
            return BAD;
        }
        Text t = textOf(text);
        int had = t.length;
        t.length = 0;
        retell();
        return had;
    }

    public int undo(int text) {
        if (!below(text, 2)) {
            return BAD;
        }
        Text t = textOf(text);
        if (t.length == 0) {
            return NOT;
        }
        t.length--;
        retell();
        return t.length;
    }

    public int fault(int text) {
        if (!below(text, 2)) {
            return BAD;
        }
        Text t = textOf(text);
        int step = text == 0 ? VOTER_STEP : MEASURE_STEP;
        for (int i = 0; i < t.length; i++) {
            boolean goesOn = text == 0 ? fitsVoter(i % step, t.bytes[i]) : fitsMeasure(i % step, t.bytes[i]);
            if (!goesOn) {
                return i;
            }
        }
        boolean ended = t.length == 0 || t.length % step == step - 1;
        return ended ? NONE : t.length;
    }

    public int voter(int voter, int what) {
        if (!below(voter, told.voters) || !below(what, 3)) {
            return BAD;
        }
        if (what == 0) {
            return told.sort[voter];
        }
        return what == 1 ? told.likes[voter] : told.grudge[voter];
    }

    public int measure(int measure, int what) {
        if (!below(measure, told.measures) || !below(what, 2)) {
            return BAD;
        }
        return what == 0 ? told.year[measure] : told.traits[measure];
    }

    public int fool(int what, int v) {
        if (!below(what, 2) || !below(v, what == 0 ? KINDS_OF_TRAITS : 10)) {
            return BAD;
        }
        int was = what == 0 ? told.foolLikes : told.weight;
        if (what == 0) {
            told.foolLikes = v;
        } else {
            told.weight = v;
        }
        retell();
        return was;
    }

    public int event(int kind, int year, int number) {
        if (!below(kind, 3) || !below(year, YEARS) || !below(number, MOST_VOTERS)) {
            return BAD;
        }
        if (told.events >= MOST_EVENTS) {
            return FULL;
        }
        told.addEvent(kind, year, number);
        retell();
        return told.events;
    }

    public int back() {
        if (told.events == 0) {
            return NOT;
        }
        told.events--;
        retell();
        return told.events;
    }

    public int read(int s) {
        if (!below(s, SHEETS)) {
            return BAD;
        }
        if (sheets.isLost(s)) {
            return found(NULL_FOUND);
        }
        int whole = sheets.size[s] / 3;
        int taken = 0;
        while (taken < whole) {
            int from = 3 * taken;
            if (event(sheets.item(s, from), sheets.item(s, from + 1), sheets.item(s, from + 2)) < 0) {
                break;
            }
            taken++;
        }
        return taken;
    }

    // ---- votes

    public int said(int measure, int voter) {
        if (!below(measure, told.measures) || !below(voter, told.voters)) {
            return BAD;
        }
        return votes.said[measure * MOST_VOTERS + voter];
    }

    public int tally(int measure, int what) {
        if (!below(measure, told.measures) || !below(what, 5)) {
            return BAD;
        }
        switch (what) {
            case 0:
                return votes.ayes[measure];
            case 1:
                return votes.noes[measure];
            case 2:
                return votes.foolDid[measure];
            case 3:
                return bit(votes.passed, measure);
            default:
                return bit(votes.decided, measure);
        }
    }

    public int at(int voter, int what) {
        if (!below(voter, told.voters) || !below(what, 4)) {
            return BAD;
        }
        switch (what) {
            case 0:
                return votes.likes[voter];
            case 1:
                return votes.grudge[voter];
            case 2:
                return votes.coats[voter];
            default:
                return votes.otherwise[voter];
        }
    }

    public int sum(int what) {
        if (!below(what, 2)) {
            return BAD;
        }
        return Integer.bitCount(what == 0 ? votes.passed : votes.decided);
    }

    public int level() {
        for (int t = 0; t < told.measures; t++) {
            int m = told.turn[t];
            if (votes.ayes[m] == votes.noes[m]) {
                return m;
            }
        }
        return NONE;
    }

    public int loyal() {
        int bits = 0;
        for (int v = 0; v < told.voters; v++) {
            if (votes.coats[v] == 0) {
                bits |= 1 << v;
            }
        }
        return bits;
    }

    public int bitter() {
        int who = NONE;
        int most = 0;
        for (int v = 0; v < told.voters; v++) {
            if (votes.otherwise[v] > most) {
                most = votes.otherwise[v];
                who = v;
            }
        }
        return who;
    }

    // ---- plans

    public int put(int measure, int what) {
        if (!below(measure, told.measures) || !below(what, 2)) {
            return BAD;
        }
        trial.become(told);
        int which = NONE;
        int fewest = NONE;
        for (int traits = 0; traits < KINDS_OF_TRAITS; traits++) {
            int changed = Integer.bitCount(traits ^ told.traits[measure]);
            if (which != NONE && changed >= fewest) {
                continue;
            }
            trial.traits[measure] = traits;
            tried.hold(trial, ALL_EVENTS);
            if (bit(tried.passed, measure) == 1) {
                which = traits;
                fewest = changed;
            }
        }
        return what == 0 ? which : fewest;
    }

    public int swap(int what) {
        if (!below(what, 3)) {
            return BAD;
        }
        trial.become(told);
        int first = NONE;
        int other = NONE;
        int most = NONE;
        for (int a = 0; a < told.voters; a++) {
            for (int b = a + 1; b < told.voters; b++) {
                trial.changePlaces(a, b);
                tried.hold(trial, ALL_EVENTS);
                trial.changePlaces(a, b);
                int passed = Integer.bitCount(tried.passed);
                if (passed > most) {
                    first = a;
                    other = b;
                    most = passed;
                }
            }
        }
        if (what == 0) {
            return first;
        }
        return what == 1 ? other : most;
    }

    public int wish(int what) {
        if (!below(what, 2)) {
            return BAD;
        }
        tryHearts();
        int which = NONE;
        int most = NONE;
        for (int likes = 0; likes < KINDS_OF_TRAITS; likes++) {
            int passed = Integer.bitCount(passedByHeart[likes]);
            if (passed > most) {
                which = likes;
                most = passed;
            }
        }
        return what == 0 ? which : most;
    }

    public int spare(int i) {
        if (i < NONE || i > 1) {
            return BAD;
        }
        int all = told.eventBits();
        if (keepsCoats(outcomeOf(all))) {
            return i == NONE ? 0 : NONE;
        }
        for (int a = 0; a < told.events; a++) {
            if (keepsCoats(outcomeOf(all & ~(1 << a)))) {
                return spared(i, 1, a, NONE);
            }
        }
        for (int a = 0; a < told.events; a++) {
            for (int b = a + 1; b < told.events; b++) {
                if (keepsCoats(outcomeOf(all & ~(1 << a) & ~(1 << b)))) {
                    return spared(i, 2, a, b);
                }
            }
        }
        return NONE;
    }

    // ---- seen, chance, ages

    public int seen(int measure, int is) {
        if (!below(measure, MOST_MEASURES) || !below(is, 2)) {
            return BAD;
        }
        if (seenCount >= MOST_SEEN) {
            return FULL;
        }
        seenMeasure[seenCount] = measure;
        seenIs[seenCount] = is;
        seenCount++;
        return seenCount;
    }

    public int forget() {
        int had = seenCount;
        seenCount = 0;
        return had;
    }

    public int might(int what) {
        if (!below(what, 2)) {
            return BAD;
        }
        if (what == 0) {
            return neverBits();
        }
        tryHearts();
        return heartBits();
    }

    public int was(int voter, int what) {
        if (!below(voter, told.voters) || !below(what, 2)) {
            return BAD;
        }
        trial.become(told);
        int kinds = what == 0 ? KINDS_OF_TRAITS : SORTS;
        int bits = 0;
        for (int k = 0; k < kinds; k++) {
            if (what == 0) {
                trial.likes[voter] = k;
            } else {
                trial.sort[voter] = k;
            }
            tried.hold(trial, ALL_EVENTS);
            if (fitsSeen(tried.passed)) {
                bits |= 1 << k;
            }
        }
        return bits;
    }

    public int ask() {
        tryHearts();
        int hearts = heartBits();
        int which = NONE;
        int least = 0;
        for (int m = 0; m < told.measures; m++) {
            int alike = mostAlike(hearts, m);
            if (which == NONE || alike < least) {
                which = m;
                least = alike;
            }
        }
        return which;
    }

    public long chance(int c, int measure, int what) {
        if (c < 0 || c > SIXTEEN || !below(measure, told.measures) || !below(what, 2)) {
            return LEAST_LONG - BAD;
        }
        long above = 0;
        int sets = 1 << told.events;
        for (int held = 0; held < sets; held++) {
            long weight = weightOf(c, Integer.bitCount(held));
            if (weight != 0 && bit(outcomeOf(held), measure) == 1) {
                above += weight;
            }
        }
        return lowestTerm(above, what);
    }

    public int ages(int seed, int n, int what) {
        if (n < 0 || n > MOST_MEASURES || !below(what, 2)) {
            return BAD;
        }
        trial.become(told);
        trial.measures = 0;
        int now = seed;
        for (int i = 0; i < n; i++) {
            now = nextSeed(now);
            int year = (now >>> 16) % YEARS;
            now = nextSeed(now);
            trial.addMeasure(year, (now >>> 16) % KINDS_OF_TRAITS);
        }
        tried.hold(trial, ALL_EVENTS);
        return what == 0 ? Integer.bitCount(tried.passed) : tried.coatsInAll(trial.voters);
    }

    // ---- sheets

    public int sheet(int s, int form, int n) {
        if (!below(s, SHEETS) || !below(form, FORMS) || n > MOST_ITEMS) {
            return BAD;
        }
        if (n < 0) {
            return found(SIZE_FOUND);
        }
        sheets.renew(s, form, n);
        return n;
    }

    public int lose(int s) {
        if (!below(s, SHEETS)) {
            return BAD;
        }
        if (sheets.isLost(s)) {
            return found(NULL_FOUND);
        }
        int had = sheets.size[s];
        sheets.size[s] = NONE;
        return had;
    }

    public int lay(int s, int form, int i, int v) {
        int refusal = refusalOfItem(s, form, i);
        if (refusal != 0) {
            return refusal;
        }
        sheets.setItem(s, i, v);
        return 1;
    }

    public int get(int s, int form, int i) {
        return refusalOfItem(s, form, i) != 0 ? LEAST_INT : sheets.item(s, i);
    }

    public int copy(int s, int i, int t, int j, int n) {
        if (!below(s, SHEETS) || !below(t, SHEETS)) {
            return BAD;
        }
        if (sheets.isLost(s) || sheets.isLost(t)) {
            return found(NULL_FOUND);
        }
        if (sheets.form[s] != sheets.form[t]) {
            return found(STORE_FOUND);
        }
        if (!sheets.hasSpan(s, i, n) || !sheets.hasSpan(t, j, n)) {
            return found(INDEX_FOUND);
        }
        System.arraycopy(sheets.items, s * MOST_ITEMS + i, sheets.items, t * MOST_ITEMS + j, n);
        return 1;
    }

    public int write(int s) {
        if (!below(s, SHEETS)) {
            return BAD;
        }
        if (sheets.isLost(s)) {
            return found(NULL_FOUND);
        }
        int written = Math.min(sheets.size[s], told.measures);
        for (int m = 0; m < written; m++) {
            sheets.setItem(s, m, votes.ayes[m] - votes.noes[m]);
        }
        return written;
    }

    public int count(int what) {
        switch (what) {
            case 0:
                return told.voters;
            case 1:
                return told.measures;
            case 2:
                return voterText.length;
            case 3:
                return measureText.length;
            case 4:
                return told.events;
            case 5:
                return Integer.bitCount(votes.passed);
            case 6:
                return votes.coatsInAll(told.voters);
            case 7:
                return seenCount;
            case 8:
                return latestFinding;
            default:
                return BAD;
        }
    }

    public long digest() {
        long h = 17;
        for (int what = 0; what < 8; what++) {
            h = 31 * h + count(what);
        }
        h = 31 * h + fault(0);
        h = 31 * h + fault(1);
        for (int m = 0; m < told.measures; m++) {
            h = withMeasure(h, m);
        }
        for (int v = 0; v < told.voters; v++) {
            h = withVoter(h, v);
        }
        h = 31 * h + sum(0);
        h = 31 * h + sum(1);
        h = 31 * h + level();
        h = 31 * h + loyal();
        h = 31 * h + bitter();
        for (int what = 0; what < 3; what++) {
            h = 31 * h + swap(what);
        }
        h = 31 * h + wish(0);
        h = 31 * h + wish(1);
        h = 31 * h + spare(NONE);
        h = 31 * h + spare(0);
        h = 31 * h + might(0);
        h = 31 * h + might(1);
        h = 31 * h + ask();
        h = 31 * h + ages(7, 9, 0);
        return 31 * h + ages(7, 9, 1);
    }

    private long withMeasure(long before, int m) {
        long h = 31 * before + measure(m, 0);
        h = 31 * h + measure(m, 1);
        for (int what = 0; what < 5; what++) {
            h = 31 * h + tally(m, what);
        }
        h = 31 * h + put(m, 0);
        h = 31 * h + put(m, 1);
        h = 31 * h + chance(5, m, 0);
        h = 31 * h + chance(5, m, 1);
        for (int v = 0; v < told.voters; v++) {
            h = 31 * h + said(m, v);
        }
        return h;
    }

    private long withVoter(long before, int v) {
        long h = before;
        for (int what = 0; what < 3; what++) {
            h = 31 * h + voter(v, what);
        }
        for (int what = 0; what < 4; what++) {
            h = 31 * h + at(v, what);
        }
        h = 31 * h + was(v, 0);
        return 31 * h + was(v, 1);
    }

    private static boolean below(int number, int bound) {
        return number >= 0 && number < bound;
    }

    private static int bit(int bits, int place) {
        return (bits >> place) & 1;
    }

    private int found(int finding) {
        latestFinding = finding;
        return -10 - finding;
    }

    private Text textOf(int text) {
        return text == 0 ? voterText : measureText;
    }

    private static boolean fitsVoter(int place, int b) {
        switch (place) {
            case 0:
                return b == 's' || b == 'w' || b == 'm';
            case 1:
                return b >= '0' && b <= '7';
            case 2:
                return b >= '0' && b <= '2';
            default:
                return b == ';';
        }
    }

    private static boolean fitsMeasure(int place, int b) {
        switch (place) {
            case 0:
                return b >= 'a' && b <= 'x';
            case 1:
                return b >= '0' && b <= '7';
            default:
                return b == ';';
        }
    }

    /** Whatever changes what is told ends here, so that votes always fit it. */
    private void retell() {
        told.voters = 0;
        if (fault(0) == NONE) {
            for (int i = 0; i + 2 < voterText.length; i += VOTER_STEP) {
                int letter = voterText.bytes[i];
                int sort = letter == 's' ? Votes.STEADY : letter == 'w' ? Votes.WEATHERCOCK : Votes.WITH_MOST;
                told.addVoter(sort, voterText.bytes[i + 1] - '0', voterText.bytes[i + 2] - '0');
            }
        }
        told.measures = 0;
        if (fault(1) == NONE) {
            for (int i = 0; i + 1 < measureText.length; i += MEASURE_STEP) {
                told.addMeasure(measureText.bytes[i] - 'a', measureText.bytes[i + 1] - '0');
            }
        }
        votes.hold(told, ALL_EVENTS);
        outcomesStale = true;
    }

    /** One run answers for all MEASURES, so what is known of a set of EVENTS is kept for the next question. */
    private int outcomeOf(int held) {
        if (outcomesStale) {
            Arrays.fill(outcomes, NOBODY_KNOWS);
            outcomesStale = false;
        }
        int set = held & ALL_EVENTS;
        if (outcomes[set] == NOBODY_KNOWS) {
            tried.hold(told, set);
            outcomes[set] = tried.coatsInAll(told.voters) > 0 ? tried.passed | COAT_BIT : tried.passed;
        }
        return outcomes[set];
    }

    private static boolean keepsCoats(int outcome) {
        return (outcome & COAT_BIT) == 0;
    }

    private static int spared(int i, int howMany, int first, int other) {
        if (i == NONE) {
            return howMany;
        }
        return i == 0 ? first : other;
    }

    private boolean fitsSeen(int passed) {
        for (int k = 0; k < seenCount; k++) {
            if (seenMeasure[k] >= told.measures || bit(passed, seenMeasure[k]) != seenIs[k]) {
                return false;
            }
        }
        return true;
    }

    private int neverBits() {
        int all = told.eventBits();
        int bits = 0;
        for (int e = 0; e < told.events; e++) {
            if (fitsSeen(outcomeOf(all & ~(1 << e)))) {
                bits |= 1 << e;
            }
        }
        return bits;
    }

    /** For each thing THE FOOL might LIKE, what is PASSED by it; wish(), might() and ask() look at that. */
    private void tryHearts() {
        trial.become(told);
        for (int likes = 0; likes < KINDS_OF_TRAITS; likes++) {
            trial.foolLikes = likes;
            tried.hold(trial, ALL_EVENTS);
            passedByHeart[likes] = tried.passed;
        }
    }

    private int heartBits() {
        int bits = 0;
        for (int likes = 0; likes < KINDS_OF_TRAITS; likes++) {
            if (fitsSeen(passedByHeart[likes])) {
                bits |= 1 << likes;
            }
        }
        return bits;
    }

    private int mostAlike(int hearts, int measure) {
        int passed = 0;
        for (int likes = 0; likes < KINDS_OF_TRAITS; likes++) {
            passed += bit(hearts, likes) & bit(passedByHeart[likes], measure);
        }
        return Math.max(passed, Integer.bitCount(hearts) - passed);
    }

    /** The chance, in parts of 16 to the number of EVENTS, that just one set of so many EVENTS is. */
    private long weightOf(int c, int held) {
        long weight = 1;
        for (int e = 0; e < told.events; e++) {
            weight *= e < held ? c : SIXTEEN - c;
        }
        return weight;
    }

    private long lowestTerm(long sum, int what) {
        int halvings = 4 * told.events;
        long above = sum;
        long under = 1L << halvings;
        // a power of two is below, so twos are all that both can share
        for (int h = 0; h < halvings && above % 2 == 0; h++) {
            above /= 2;
            under /= 2;
        }
        return what == 0 ? above : under;
    }

    private static int nextSeed(int seed) {
        return 1103515245 * seed + 12345;
    }

    private int refusalOfItem(int s, int form, int i) {
        if (!below(s, SHEETS) || !below(form, FORMS)) {
            return BAD;
        }
        if (sheets.isLost(s)) {
            return found(NULL_FOUND);
        }
        if (sheets.form[s] != form) {
            return found(CAST_FOUND);
        }
        return below(i, sheets.size[s]) ? 0 : found(INDEX_FOUND);
    }

    private static final class Text {
        final int[] bytes;
        int length;

        Text(int[] room) {
            bytes = room;
        }
    }

    /** All that the votes hang on. */
    private static final class Canton {
        int voters;
        final int[] sort = new int[MOST_VOTERS];
        final int[] likes = new int[MOST_VOTERS];
        final int[] grudge = new int[MOST_VOTERS];
        /** Who speaks at each PLACE. */
        final int[] speaker = new int[MOST_VOTERS];
        int measures;
        final int[] year = new int[MOST_MEASURES];
        final int[] traits = new int[MOST_MEASURES];
        /** MEASURES as they are voted on. */
        final int[] turn = new int[MOST_MEASURES];
        int events;
        final int[] kind = new int[MOST_EVENTS];
        final int[] when = new int[MOST_EVENTS];
        final int[] number = new int[MOST_EVENTS];
        int foolLikes;
        int weight;

        void addVoter(int ofSort, int liking, int grudges) {
            if (voters >= MOST_VOTERS) {
                return;
            }
            sort[voters] = ofSort;
            likes[voters] = liking;
            grudge[voters] = grudges;
            speaker[voters] = voters;
            voters++;
        }

        void addMeasure(int inYear, int withTraits) {
            if (measures >= MOST_MEASURES) {
                return;
            }
            int at = measures;
            while (at > 0 && year[turn[at - 1]] > inYear) {
                turn[at] = turn[at - 1];
                at--;
            }
            turn[at] = measures;
            year[measures] = inYear;
            traits[measures] = withTraits;
            measures++;
        }

        void addEvent(int ofKind, int inYear, int itsNumber) {
            if (events >= MOST_EVENTS) {
                return;
            }
            kind[events] = ofKind;
            when[events] = inYear;
            number[events] = itsNumber;
            events++;
        }

        int eventBits() {
            return (1 << events) - 1;
        }

        void changePlaces(int a, int b) {
            int moved = speaker[a];
            speaker[a] = speaker[b];
            speaker[b] = moved;
        }

        void become(Canton model) {
            voters = model.voters;
            System.arraycopy(model.sort, 0, sort, 0, MOST_VOTERS);
            System.arraycopy(model.likes, 0, likes, 0, MOST_VOTERS);
            System.arraycopy(model.grudge, 0, grudge, 0, MOST_VOTERS);
            System.arraycopy(model.speaker, 0, speaker, 0, MOST_VOTERS);
            measures = model.measures;
            System.arraycopy(model.year, 0, year, 0, MOST_MEASURES);
            System.arraycopy(model.traits, 0, traits, 0, MOST_MEASURES);
            System.arraycopy(model.turn, 0, turn, 0, MOST_MEASURES);
            events = model.events;
            System.arraycopy(model.kind, 0, kind, 0, MOST_EVENTS);
            System.arraycopy(model.when, 0, when, 0, MOST_EVENTS);
            System.arraycopy(model.number, 0, number, 0, MOST_EVENTS);
            foolLikes = model.foolLikes;
            weight = model.weight;
        }
    }

    /** How it all comes out in a canton. */
    private static final class Votes {
        static final int STEADY = 0, WEATHERCOCK = 1, WITH_MOST = 2;
        static final int DOG = 0, APPLE = 1;
        static final int SILENT = 2;
        static final int[] TRAITS_IN = {0, 1, 1, 2, 1, 2, 2, 3};

        final int[] said = new int[MOST_MEASURES * MOST_VOTERS];
        final int[] ayes = new int[MOST_MEASURES];
        final int[] noes = new int[MOST_MEASURES];
        final int[] foolDid = new int[MOST_MEASURES];
        int passed;
        int decided;
        final int[] likes = new int[MOST_VOTERS];
        final int[] grudge = new int[MOST_VOTERS];
        final int[] coats = new int[MOST_VOTERS];
        final int[] otherwise = new int[MOST_VOTERS];
        private boolean withDog;
        private boolean withApple;
        private int hushed;

        /** Votes on all MEASURES; of the canton's EVENTS only those in held are. */
        void hold(Canton c, int held) {
            passed = 0;
            decided = 0;
            for (int v = 0; v < c.voters; v++) {
                likes[v] = c.likes[v];
                grudge[v] = c.grudge[v];
                coats[v] = 0;
                otherwise[v] = 0;
            }
            for (int t = 0; t < c.measures; t++) {
                int m = c.turn[t];
                lookAtYear(c, held, c.year[m]);
                int traits = withDog ? c.traits[m] | 1 : c.traits[m];
                speak(c, m, traits);
                decide(m, isFor(c.foolLikes, traits), c.weight);
                remember(c, m);
            }
        }

        int coatsInAll(int voters) {
            int all = 0;
            for (int v = 0; v < voters; v++) {
                all += coats[v];
            }
            return all;
        }

        private void lookAtYear(Canton c, int held, int year) {
            withDog = false;
            withApple = false;
            hushed = 0;
            for (int e = 0; e < c.events; e++) {
                if (bit(held, e) == 0 || c.when[e] != year) {
                    continue;
                }
                if (c.kind[e] == DOG) {
                    withDog = true;
                } else if (c.kind[e] == APPLE) {
                    withApple = true;
                } else {
                    hushed |= 1 << c.number[e];
                }
            }
        }

        private void speak(Canton c, int m, int traits) {
            int aye = 0;
            int no = 0;
            int last = SILENT;
            for (int place = 0; place < c.voters; place++) {
                int v = c.speaker[place];
                int word = SILENT;
                if (bit(hushed, v) == 0) {
                    word = isFor(likes[v], traits);
                    if (c.sort[v] == WEATHERCOCK && last != SILENT) {
                        word = last;
                    } else if (c.sort[v] == WITH_MOST && aye != no) {
                        word = aye > no ? 1 : 0;
                    }
                    aye += word;
                    no += 1 - word;
                    last = word;
                }
                said[m * MOST_VOTERS + v] = word;
            }
            ayes[m] = aye;
            noes[m] = no;
        }

        private void decide(int m, int foolIsFor, int weight) {
            int lead = ayes[m] - noes[m];
            int whole = lead;
            foolDid[m] = SILENT;
            if (!withApple) {
                foolDid[m] = foolIsFor;
                whole += foolIsFor == 1 ? weight : -weight;
            }
            if (whole > 0) {
                passed |= 1 << m;
            }
            if ((whole > 0) != (lead > 0)) {
                decided |= 1 << m;
            }
        }

        private void remember(Canton c, int m) {
            int cameOut = bit(passed, m);
            for (int v = 0; v < c.voters; v++) {
                int word = said[m * MOST_VOTERS + v];
                if (word == cameOut) {
                    grudge[v] = 0;
                } else if (word != SILENT) {
                    otherwise[v]++;
                    grudge[v]++;
                    if (grudge[v] >= 3) {
                        likes[v] = ALL_TRAITS & ~likes[v];
                        coats[v]++;
                        grudge[v] = 0;
                    }
                }
            }
        }

        private static int isFor(int liked, int traits) {
            int welcome = TRAITS_IN[traits & liked & ALL_TRAITS];
            int unwelcome = TRAITS_IN[traits & ~liked & ALL_TRAITS];
            return welcome > unwelcome ? 1 : 0;
        }
    }

    /** Rows of the three FORMS; each item is kept as an int that its FORM could hold. */
    private static final class Sheets {
        final int[] form = new int[SHEETS];
        /** How many items; NONE: it is LOST. */
        final int[] size = new int[SHEETS];
        final int[] items = new int[SHEETS * MOST_ITEMS];

        Sheets() {
            for (int s = 0; s < SHEETS; s++) {
                size[s] = NONE;
            }
        }

        boolean isLost(int s) {
            return size[s] == NONE;
        }

        void renew(int s, int ofForm, int n) {
            form[s] = ofForm;
            size[s] = n;
            for (int i = 0; i < n; i++) {
                items[s * MOST_ITEMS + i] = 0;
            }
        }

        int item(int s, int i) {
            return items[s * MOST_ITEMS + i];
        }

        void setItem(int s, int i, int v) {
            int kept = v;
            if (form[s] == 0) {
                kept = (byte) v;
            } else if (form[s] == 1) {
                kept = (short) v;
            }
            items[s * MOST_ITEMS + i] = kept;
        }

        boolean hasSpan(int s, int from, int n) {
            return from >= 0 && n >= 0 && n <= size[s] - from;
        }
    }
}
