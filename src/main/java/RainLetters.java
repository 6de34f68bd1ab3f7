import java.util.Arrays;

/** A street of gutters on which it rains letters: what ran out, what would, and what must have been. */
public final class RainLetters {
    public static final int NONE = -1, UNKNOWN = -101, OUTSIDE = -102, STATE = -103, FULL = -104;

    private static final int GUTTERS = 6, KINDS = 5, LETTERS = 5;
    private static final int PLAIN = 0, BOWL = 1, SIEVE = 2, THIEF = 3, DAM = 4;
    private static final int FIRST_VOWEL = 0, LAST_VOWEL = 4;
    private static final String KIND_SIGNS = "gbstd";
    private static final int STREET_SORT = 0, WORD_SORT = 1;
    private static final int GUTTER_SIGNS = 3, STREET_SIGNS = 17;
    private static final int MOST_SIGNS = 20, MOST_CODE = 126;
    private static final int MOST_DROPS = 12, MOST_WORD = 8, MOST_SEARCHES = 20;
    private static final int WAYS_TO_FLOW = 720;
    private static final int MIXED_DROPS = 6;
    private static final int WORD_BITS_ROW = 977;
    private static final int MOST_TIMES = 40, MORNING_DROPS = 5;
    private static final int SEED_BITS = 0x7fffffff;
    private static final int ABOUTS = 6, COUNTS = 11;

    private final Page page = new Page();
    private final Scene now = new Scene();
    private final Scene kept = new Scene();
    private final Street trial = new Street();
    private final Turns turns = new Turns();
    private final int[] wanted = new int[MOST_WORD];
    private final int[] left = new int[MIXED_DROPS];
    private final int[] seenWords = new int[WORD_BITS_ROW];
    private boolean imageKept;
    private int streetsRead;
    private int fewTurnsDone;
    private int ordersDone;

    public RainLetters() {
    }

    // ---- texts

    public int letter(int code) {
        if (code < 1 || code > MOST_CODE) {
            return OUTSIDE;
        }
        if (page.size >= MOST_SIGNS) {
            return FULL;
        }
        page.codes[page.size] = code;
        page.size++;
        return page.size;
    }

    public int blank() {
        int had = page.size;
        page.size = 0;
        return had;
    }

    public int fault(int sort) {
        if (sort != STREET_SORT && sort != WORD_SORT) {
            return OUTSIDE;
        }
        return page.firstFault(sort);
    }

    public int street() {
        if (!page.isStreet()) {
            return STATE;
        }
        for (int gutter = 0; gutter < GUTTERS; gutter++) {
            now.street.kinds[gutter] = page.kindAt(gutter * GUTTER_SIGNS);
            now.street.flows[gutter] = page.flowAt(gutter * GUTTER_SIGNS + 1, gutter);
        }
        now.street.clear();
        now.fallen.size = 0;
        now.finds.clear();
        imageKept = false;
        streetsRead++;
        page.size = 0;
        return now.street.countOut();
    }

    public int about(int gutter, int what) {
        if (!isGutter(gutter)) {
            return UNKNOWN;
        }
        switch (what) {
            case 0:
                return now.street.kinds[gutter];
            case 1:
                return now.street.flows[gutter];
            case 2:
                return now.street.came[gutter];
            case 3:
                return now.street.held[gutter];
            case 4:
                return now.street.lengths[gutter];
            case 5:
                return now.street.lost[gutter];
            default:
                return OUTSIDE;
        }
    }

    public int as(int gutter, int kind) {
        if (!isGutter(gutter)) {
            return UNKNOWN;
        }
        if (kind < 0 || kind >= KINDS) {
            return OUTSIDE;
        }
        int own = now.street.kinds[gutter];
        boolean isSuch = kind == PLAIN || kind == own || (kind == SIEVE && own == DAM);
        return isSuch ? gutter : NONE;
    }

    public int word(int gutter, int place) {
        if (!isGutter(gutter) || place < 0 || place >= now.street.lengths[gutter]) {
            return UNKNOWN;
        }
        return now.street.words[gutter][place];
    }

    // ---- rain

    public int drop(int gutter, int letter) {
        if (!isGutter(gutter)) {
            return UNKNOWN;
        }
        if (!isLetter(letter)) {
            return OUTSIDE;
        }
        if (now.fallen.size >= MOST_DROPS) {
            return FULL;
        }
        now.fallen.add(gutter, letter);
        return now.street.run(gutter, letter);
    }

    public int rain(int drop, int what) {
        if (!isDrop(drop)) {
            return UNKNOWN;
        }
        if (what != 0 && what != 1) {
            return OUTSIDE;
        }
        return what == 0 ? now.fallen.gutters[drop] : now.fallen.letters[drop];
    }

    public int dry() {
        if (!hasStreet()) {
            return STATE;
        }
        int had = now.fallen.size;
        now.fallen.size = 0;
        now.street.clear();
        return had;
    }

    public int turn(int gutter, int to) {
        if (!isGutter(gutter)) {
            return UNKNOWN;
        }
        if (to != NONE && (to <= gutter || to >= GUTTERS)) {
            return OUTSIDE;
        }
        int had = now.street.flows[gutter];
        now.street.flows[gutter] = to;
        return had;
    }

    // ---- what would be

    public int fewTurns(int gutter, int what) {
        if (!isGutter(gutter)) {
            return UNKNOWN;
        }
        if (what < 0 || what > 2) {
            return OUTSIDE;
        }
        if (!page.isWord() || fewTurnsDone >= MOST_SEARCHES) {
            return STATE;
        }
        fewTurnsDone++;
        seekTurns(gutter);
        return turns.tell(what);
    }

    public int orders(int gutter) {
        if (!isGutter(gutter)) {
            return UNKNOWN;
        }
        if (now.street.flows[gutter] != NONE || ordersDone >= MOST_SEARCHES) {
            return STATE;
        }
        ordersDone++;
        return countWords(gutter);
    }

    public int bestDrop(int letter) {
        if (!isLetter(letter)) {
            return OUTSIDE;
        }
        if (!hasStreet()) {
            return STATE;
        }
        if (now.fallen.size >= MOST_DROPS) {
            return FULL;
        }
        int best = 0;
        int most = NONE;
        for (int gutter = 0; gutter < GUTTERS; gutter++) {
            trial.layLike(now.street);
            trial.runAll(now.fallen, NONE, 0);
            trial.run(gutter, letter);
            int out = trial.lettersOut();
            if (out > most) {
                most = out;
                best = gutter;
            }
        }
        return best;
    }

    // ---- what is found

    public int found(int gutter) {
        if (!isGutter(gutter)) {
            return UNKNOWN;
        }
        if (page.size != 0 && !page.isWord()) {
            return STATE;
        }
        page.copyLetters(now.finds.words[gutter]);
        now.finds.lengths[gutter] = page.size;
        page.size = 0;
        return now.finds.countFound();
    }

    public int forget() {
        int had = now.finds.countFound();
        now.finds.clear();
        return had;
    }

    public int kindOf(int gutter) {
        if (!isGutter(gutter)) {
            return UNKNOWN;
        }
        int bits = 0;
        for (int kind = 0; kind < KINDS; kind++) {
            trial.layLike(now.street);
            trial.kinds[gutter] = kind;
            trial.runAll(now.fallen, NONE, 0);
            if (now.finds.fit(trial)) {
                bits |= 1 << kind;
            }
        }
        return bits;
    }

    public int letterOf(int drop) {
        if (!isDrop(drop)) {
            return UNKNOWN;
        }
        int bits = 0;
        for (int letter = 0; letter < LETTERS; letter++) {
            trial.layLike(now.street);
            trial.runAll(now.fallen, drop, letter);
            if (now.finds.fit(trial)) {
                bits |= 1 << letter;
            }
        }
        return bits;
    }

    public int mornings(int times, int seed, int what) {
        if (times < 1 || times > MOST_TIMES || seed < 0 || (what != 0 && what != 1)) {
            return OUTSIDE;
        }
        if (!hasStreet()) {
            return STATE;
        }
        int out = 0;
        int next = seed;
        for (int time = 0; time < times; time++) {
            trial.layLike(now.street);
            for (int drop = 0; drop < MORNING_DROPS; drop++) {
                next = nextSeed(next);
                int gutter = (next >> 16) % GUTTERS;
                next = nextSeed(next);
                trial.run(gutter, (next >> 16) % LETTERS);
            }
            out += trial.lettersOut();
        }
        return what == 0 ? out : next;
    }

    // ---- what is told of all

    public int image() {
        if (!hasStreet()) {
            return STATE;
        }
        kept.takeAll(now);
        imageKept = true;
        return now.fallen.size;
    }

    public int restore() {
        if (!imageKept) {
            return STATE;
        }
        now.takeAll(kept);
        return now.fallen.size;
    }

    public int count(int what) {
        switch (what) {
            case 0:
                return hasStreet() ? GUTTERS : 0;
            case 1:
                return hasStreet() ? now.street.countOut() : 0;
            case 2:
                return now.fallen.size;
            case 3:
                return now.street.lettersOut();
            case 4:
                return now.street.lettersLost();
            case 5:
                return now.street.fullBowls();
            case 6:
                return now.finds.countFound();
            case 7:
                return page.size;
            case 8:
                return streetsRead;
            case 9:
                return fewTurnsDone;
            case 10:
                return ordersDone;
            default:
                return OUTSIDE;
        }
    }

    public long digest() {
        long h = 821;
        if (hasStreet()) {
            h = mixGutters(h);
            h = mixDrops(h);
        }
        for (int place = 0; place < page.size; place++) {
            h = mix(h, page.codes[place]);
        }
        for (int what = 0; what < COUNTS; what++) {
            h = mix(h, count(what));
        }
        return h;
    }

    private long mixGutters(long start) {
        long h = start;
        for (int gutter = 0; gutter < GUTTERS; gutter++) {
            for (int what = 0; what < ABOUTS; what++) {
                h = mix(h, about(gutter, what));
            }
            for (int place = 0; place < now.street.lengths[gutter]; place++) {
                h = mix(h, word(gutter, place));
            }
            h = mix(h, kindOf(gutter));
        }
        return h;
    }

    private long mixDrops(long start) {
        long h = start;
        for (int drop = 0; drop < now.fallen.size; drop++) {
            h = mix(h, rain(drop, 0));
            h = mix(h, rain(drop, 1));
            h = mix(h, letterOf(drop));
        }
        return h;
    }

    private static long mix(long h, long number) {
        return 31 * h + number;
    }

    private boolean hasStreet() {
        return streetsRead > 0;
    }

    private boolean isGutter(int gutter) {
        return hasStreet() && gutter >= 0 && gutter < GUTTERS;
    }

    private boolean isDrop(int drop) {
        return drop >= 0 && drop < now.fallen.size;
    }

    private static boolean isLetter(int letter) {
        return letter >= 0 && letter < LETTERS;
    }

    // The wrapping product has the same low 31 bits as the whole one.
    private static int nextSeed(int seed) {
        return (1103515245 * seed + 12345) & SEED_BITS;
    }

    /** Tries every way to flow, but for those that turn more gutters than one that was good. */
    private void seekTurns(int gutter) {
        page.copyLetters(wanted);
        turns.clear();
        trial.layLike(now.street);
        for (int way = 0; way < WAYS_TO_FLOW; way++) {
            trial.flowBy(way);
            int turned = trial.unlikeFlows(now.street);
            if (trial.flows[gutter] != NONE || Integer.bitCount(turned) > turns.few) {
                continue;
            }
            trial.clear();
            trial.runAll(now.fallen, NONE, 0);
            if (trial.wordIs(gutter, wanted, page.size)) {
                turns.add(turned);
            }
        }
    }

    private int countWords(int gutter) {
        int drops = Math.min(now.fallen.size, MIXED_DROPS);
        int allOrders = 1;
        for (int drop = 2; drop <= drops; drop++) {
            allOrders *= drop;
        }
        Arrays.fill(seenWords, 0);
        trial.layLike(now.street);
        int unlike = 0;
        for (int order = 0; order < allOrders; order++) {
            trial.clear();
            runMixed(order, drops);
            if (noteWord(trial.wordCode(gutter))) {
                unlike++;
            }
        }
        return unlike;
    }

    /** The first drops fall in the order of that number: which of those left is next, place by place. */
    private void runMixed(int order, int drops) {
        for (int drop = 0; drop < drops; drop++) {
            left[drop] = drop;
        }
        int rest = order;
        for (int many = drops; many > 0; many--) {
            int place = rest % many;
            rest /= many;
            int drop = left[place];
            left[place] = left[many - 1];
            trial.run(now.fallen.gutters[drop], now.fallen.letters[drop]);
        }
    }

    private boolean noteWord(int code) {
        int slot = code >> 5;
        int bit = 1 << (code & 31);
        if (slot < 0 || slot >= WORD_BITS_ROW || (seenWords[slot] & bit) != 0) {
            return false;
        }
        seenWords[slot] |= bit;
        return true;
    }

    /** The text that is being written, sign by sign. */
    private static final class Page {
        final int[] codes = new int[MOST_SIGNS];
        int size;

        int firstFault(int sort) {
            for (int place = 0; place < size; place++) {
                boolean fits = sort == STREET_SORT ? fitsStreet(place) : fitsWord(place);
                if (!fits) {
                    return place;
                }
            }
            return size;
        }

        boolean isStreet() {
            return size == STREET_SIGNS && firstFault(STREET_SORT) == size;
        }

        boolean isWord() {
            return size > 0 && firstFault(WORD_SORT) == size;
        }

        int kindAt(int place) {
            return KIND_SIGNS.indexOf((char) codes[place]);
        }

        /** Where that sign lets a gutter flow; UNKNOWN if it is no place for it. */
        int flowAt(int place, int gutter) {
            int code = codes[place];
            if (code == '-') {
                return NONE;
            }
            int to = code - '0';
            return to > gutter && to < GUTTERS ? to : UNKNOWN;
        }

        void copyLetters(int[] row) {
            for (int place = 0; place < size && place < row.length; place++) {
                row[place] = codes[place] - 'a';
            }
        }

        private boolean fitsStreet(int place) {
            if (place >= STREET_SIGNS) {
                return false;
            }
            switch (place % GUTTER_SIGNS) {
                case 0:
                    return kindAt(place) >= 0;
                case 1:
                    return flowAt(place, place / GUTTER_SIGNS) != UNKNOWN;
                default:
                    return codes[place] == ',';
            }
        }

        private boolean fitsWord(int place) {
            return place < MOST_WORD && isLetter(codes[place] - 'a');
        }
    }

    /** The drops in the order of their fall. */
    private static final class Fallen {
        final int[] gutters = new int[MOST_DROPS];
        final int[] letters = new int[MOST_DROPS];
        int size;

        void add(int gutter, int letter) {
            if (size < MOST_DROPS) {
                gutters[size] = gutter;
                letters[size] = letter;
                size++;
            }
        }

        void takeAll(Fallen other) {
            System.arraycopy(other.gutters, 0, gutters, 0, MOST_DROPS);
            System.arraycopy(other.letters, 0, letters, 0, MOST_DROPS);
            size = other.size;
        }
    }

    /** The words that were found, by gutter; NONE is the length where nothing is. */
    private static final class Finds {
        final int[][] words = new int[GUTTERS][MOST_WORD];
        final int[] lengths = new int[GUTTERS];

        Finds() {
            clear();
        }

        void clear() {
            Arrays.fill(lengths, NONE);
        }

        int countFound() {
            int found = 0;
            for (int length : lengths) {
                found += length == NONE ? 0 : 1;
            }
            return found;
        }

        boolean fit(Street street) {
            for (int gutter = 0; gutter < GUTTERS; gutter++) {
                if (lengths[gutter] != NONE && !street.wordIs(gutter, words[gutter], lengths[gutter])) {
                    return false;
                }
            }
            return true;
        }

        void takeAll(Finds other) {
            System.arraycopy(other.lengths, 0, lengths, 0, GUTTERS);
            for (int gutter = 0; gutter < GUTTERS; gutter++) {
                System.arraycopy(other.words[gutter], 0, words[gutter], 0, MOST_WORD);
            }
        }
    }

    /** Six gutters, and what has run through them. */
    private static final class Street {
        final int[] kinds = new int[GUTTERS];
        final int[] flows = new int[GUTTERS];
        /** What a bowl keeps, or what came ahead to a sieve or a dam. */
        final int[] held = new int[GUTTERS];
        /** How many a dam would have let through if it were a sieve alone. */
        final int[] sieved = new int[GUTTERS];
        final int[] came = new int[GUTTERS];
        final int[] lost = new int[GUTTERS];
        final int[] lengths = new int[GUTTERS];
        final int[][] words = new int[GUTTERS][MOST_DROPS];

        void clear() {
            Arrays.fill(held, NONE);
            Arrays.fill(sieved, 0);
            Arrays.fill(came, 0);
            Arrays.fill(lost, 0);
            Arrays.fill(lengths, 0);
        }

        void layLike(Street other) {
            System.arraycopy(other.kinds, 0, kinds, 0, GUTTERS);
            System.arraycopy(other.flows, 0, flows, 0, GUTTERS);
            clear();
        }

        void takeAll(Street other) {
            layLike(other);
            System.arraycopy(other.held, 0, held, 0, GUTTERS);
            System.arraycopy(other.sieved, 0, sieved, 0, GUTTERS);
            System.arraycopy(other.came, 0, came, 0, GUTTERS);
            System.arraycopy(other.lost, 0, lost, 0, GUTTERS);
            System.arraycopy(other.lengths, 0, lengths, 0, GUTTERS);
            for (int gutter = 0; gutter < GUTTERS; gutter++) {
                System.arraycopy(other.words[gutter], 0, words[gutter], 0, MOST_DROPS);
            }
        }

        /** Each gutter flows by one digit of the number: 0 is OUT, the others the gutters behind it. */
        void flowBy(int way) {
            int rest = way;
            for (int gutter = 0; gutter < GUTTERS; gutter++) {
                int choices = GUTTERS - gutter;
                int choice = rest % choices;
                rest /= choices;
                flows[gutter] = choice == 0 ? NONE : gutter + choice;
            }
        }

        int unlikeFlows(Street other) {
            int bits = 0;
            for (int gutter = 0; gutter < GUTTERS; gutter++) {
                if (flows[gutter] != other.flows[gutter]) {
                    bits |= 1 << gutter;
                }
            }
            return bits;
        }

        /** All that has fallen runs, with another letter for one drop (NONE: for no drop). */
        void runAll(Fallen fallen, int otherDrop, int otherLetter) {
            for (int drop = 0; drop < fallen.size; drop++) {
                run(fallen.gutters[drop], drop == otherDrop ? otherLetter : fallen.letters[drop]);
            }
        }

        /** A drop runs as far as it comes: the gutter out of which a letter came, or NONE. */
        int run(int gutter, int letter) {
            int at = gutter;
            int running = letter;
            for (int step = 0; step < GUTTERS && at >= 0 && at < GUTTERS; step++) {
                running = passOn(at, running);
                if (running == NONE) {
                    return NONE;
                }
                if (flows[at] == NONE) {
                    runOut(at, running);
                    return at;
                }
                at = flows[at];
            }
            return NONE;
        }

        boolean wordIs(int gutter, int[] letters, int length) {
            if (lengths[gutter] != length) {
                return false;
            }
            for (int place = 0; place < length && place < letters.length; place++) {
                if (words[gutter][place] != letters[place]) {
                    return false;
                }
            }
            return true;
        }

        /** The word as a number of base LETTERS behind a 1, so that no two words share one. */
        int wordCode(int gutter) {
            int code = 1;
            for (int place = 0; place < lengths[gutter]; place++) {
                code = code * LETTERS + words[gutter][place];
            }
            return code;
        }

        int countOut() {
            int out = 0;
            for (int flow : flows) {
                out += flow == NONE ? 1 : 0;
            }
            return out;
        }

        int lettersOut() {
            return sum(lengths);
        }

        int lettersLost() {
            return sum(lost);
        }

        int fullBowls() {
            int full = 0;
            for (int gutter = 0; gutter < GUTTERS; gutter++) {
                full += kinds[gutter] == BOWL && held[gutter] != NONE ? 1 : 0;
            }
            return full;
        }

        private static int sum(int[] row) {
            int all = 0;
            for (int number : row) {
                all += number;
            }
            return all;
        }

        private void runOut(int gutter, int letter) {
            if (lengths[gutter] < MOST_DROPS) {
                words[gutter][lengths[gutter]] = letter;
                lengths[gutter]++;
            }
        }

        /** A letter comes to a gutter: the letter that runs on from it, or NONE. */
        private int passOn(int gutter, int letter) {
            came[gutter]++;
            if (kinds[gutter] == BOWL) {
                int had = held[gutter];
                held[gutter] = letter;
                return had;
            }
            if (letsThrough(gutter, letter)) {
                return letter;
            }
            lost[gutter]++;
            return NONE;
        }

        private boolean letsThrough(int gutter, int letter) {
            boolean unlikeAhead = held[gutter] != letter;
            switch (kinds[gutter]) {
                case SIEVE:
                    held[gutter] = letter;
                    return unlikeAhead;
                case THIEF:
                    return letter != FIRST_VOWEL && letter != LAST_VOWEL;
                case DAM:
                    held[gutter] = letter;
                    sieved[gutter] += unlikeAhead ? 1 : 0;
                    return unlikeAhead && sieved[gutter] % 2 == 1;
                default:
                    return true;
            }
        }
    }

    /** All that an image keeps. */
    private static final class Scene {
        final Street street = new Street();
        final Fallen fallen = new Fallen();
        final Finds finds = new Finds();

        void takeAll(Scene other) {
            street.takeAll(other.street);
            fallen.takeAll(other.fallen);
            finds.takeAll(other.finds);
        }
    }

    /** The fewest turns that were good so far, the least bits of them, and how many ways have as few. */
    private static final class Turns {
        int few;
        int bits;
        int ways;

        void clear() {
            few = GUTTERS;
            bits = 0;
            ways = 0;
        }

        void add(int turned) {
            int size = Integer.bitCount(turned);
            if (ways == 0 || size < few) {
                few = size;
                bits = turned;
                ways = 1;
            } else if (size == few) {
                bits = Math.min(bits, turned);
                ways++;
            }
        }

        int tell(int what) {
            if (ways == 0) {
                return NONE;
            }
            switch (what) {
                case 0:
                    return few;
                case 1:
                    return bits;
                default:
                    return ways;
            }
        }
    }
}
