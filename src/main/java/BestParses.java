import java.util.Arrays;

/**
 * Texts of octets told as literals and copies of what stood before, at the costs of three packed
 * forms. The promises are numbered in the document; README.md says how to use the class.
 */
public final class BestParses {
    public static final int NONE = -1;

    private static final int MOST_OCTETS = 300;
    private static final int MOST_KEPT = 40;
    private static final int FIRST_KEPT = 8;
    private static final int MOST_ROUNDS = 8;

    private static final int SLOT_FORM = 0;
    private static final int OCTET_FORM = 1;
    private static final int LATEST_FORM = 2;

    private static final int HOW_BEST = 3;

    // What a step is; the costs of KINDS are numbered likewise.
    private static final int LITERAL = 0;
    private static final int COPY = 1;
    private static final int AGAIN = 2;
    private static final int SHORT = 6;

    // Above every sum that a parse can have.
    private static final int FAR = 1 << 30;

    private final int form;
    private final Text text;
    private final Costs costs;
    private final Costs leastCosts;
    private final Form rules;
    private final Stepper stepper;
    private final Blocks blocks;
    private Parse current;
    private Parse spare;
    private boolean parsed;
    private int kept;
    private int droppedPlaces;

    public BestParses(int form) {
        this.form = Math.max(SLOT_FORM, Math.min(form, LATEST_FORM));
        this.text = new Text(this.form);
        this.costs = new Costs(this.form);
        this.leastCosts = new Costs(this.form);
        if (this.form == SLOT_FORM) {
            this.rules = new SlotForm(this.text, this.costs);
        } else if (this.form == OCTET_FORM) {
            this.rules = new OctetForm(this.text, this.costs);
        } else {
            this.rules = new LatestForm(this.text, this.costs);
        }
        this.stepper = new Stepper(this.text, this.form == LATEST_FORM);
        this.blocks = new Blocks(this.text);
        this.current = new Parse();
        this.spare = new Parse();
        this.kept = FIRST_KEPT;
    }

    public int octets(int n, long octets) {
        if (n < 1 || n > 8 || text.size + n > MOST_OCTETS) {
            return NONE;
        }
        for (int i = 0; i < n; i++) {
            text.append((int) (octets >>> (8 * i)) & 255);
        }
        parsed = false;
        return text.size;
    }

    public int cost(int kind, int symbol, int v) {
        if (!costs.has(kind, symbol) || v < 1 || v > 10000) {
            return NONE;
        }
        int before = costs.of(kind, symbol);
        costs.put(kind, symbol, v);
        return before;
    }

    public int price(int kind, int symbol) {
        return costs.has(kind, symbol) ? costs.of(kind, symbol) : NONE;
    }

    public int keep(int n) {
        if (n < 1 || n > MOST_KEPT || form != LATEST_FORM) {
            return NONE;
        }
        int before = kept;
        kept = n;
        return before;
    }

    public int parse(int how) {
        if (how < 0 || how > HOW_BEST) {
            return NONE;
        }
        if (how == HOW_BEST) {
            findBest(current);
        } else {
            stepper.walk(current, how);
            current.finish(text, rules.costOf(current), false);
        }
        parsed = true;
        return current.count;
    }

    public int step(int i, int what) {
        if (!parsed || !current.hasStep(i)) {
            return NONE;
        }
        switch (what) {
            case 0:
                return current.places[i];
            case 1:
                return current.lengths[i];
            case 2:
                return current.distances[i];
            case 3:
                return current.kinds[i];
            default:
                return NONE;
        }
    }

    public long sum() {
        return parsed ? current.sumThen : NONE;
    }

    public long again() {
        return parsed ? rules.costOf(current) : NONE;
    }

    public boolean least() {
        return parsed && current.leastOfAll;
    }

    public int told(int i) {
        return parsed && text.has(i) ? current.toldOctets[i] : NONE;
    }

    public long rounds(int n) {
        if (n < 1 || n > MOST_ROUNDS || form == OCTET_FORM || text.size == 0) {
            return NONE;
        }
        long leastCost = 0;
        for (int round = 0; round < n; round++) {
            findBest(spare);
            costs.fitTo(spare, text);
            long fitted = rules.costOf(spare);
            if (round == 0 || fitted < leastCost) {
                leastCost = fitted;
                leastCosts.copyFrom(costs);
                takeSpare();
            }
        }
        costs.copyFrom(leastCosts);
        parsed = true;
        return leastCost;
    }

    public int longest(int place) {
        return text.has(place) ? text.longestCopy(place) : NONE;
    }

    public int distance(int place, int length) {
        int found = text.copyDistance(place, length);
        return found > 0 ? found : NONE;
    }

    public int cut(int place) {
        return blocks.addCut(place) ? blocks.cutCount : NONE;
    }

    public long split(int head) {
        if (head < 0 || head > 100000 || text.size == 0) {
            return NONE;
        }
        return blocks.divide(head);
    }

    public int taken(int k) {
        return k >= 0 && k < blocks.takenCount ? blocks.takenCuts[k] : NONE;
    }

    public int many(int what) {
        switch (what) {
            case 0:
                return text.size;
            case 1:
                return parsed ? current.count : 0;
            case 2:
                return blocks.cutCount;
            case 3:
                return blocks.takenCount;
            case 4:
                return droppedPlaces;
            case 5:
                return kept;
            case 6:
                return form;
            default:
                return NONE;
        }
    }

    public void clear() {
        text.size = 0;
        blocks.forget();
        costs.reset();
        parsed = false;
        kept = FIRST_KEPT;
        droppedPlaces = 0;
    }

    public int trier(int i) throws ArrayIndexOutOfBoundsException {
        if (!text.has(i)) {
            throw new ArrayIndexOutOfBoundsException("no such octet");
        }
        return text.octetRow[i];
    }

    private void findBest(Parse into) {
        droppedPlaces = rules.findBest(into, kept);
        into.finish(text, rules.costOf(into), droppedPlaces == 0);
    }

    private void takeSpare() {
        Parse before = current;
        current = spare;
        spare = before;
    }

    /** LOG of the document; 0 for what it does not tell. */
    private static int logOf(int v) {
        if (v < 1) {
            return 0;
        }
        int f = highestBit(v);
        return 64 * f + ((64 * v) >> f) - 64;
    }

    /** The exponent of the greatest power of 2 not above x; 0 for x below 1. */
    private static int highestBit(int x) {
        int k = 0;
        while (k < 30 && (x >> (k + 1)) > 0) {
            k++;
        }
        return k;
    }

    /** THE TEXT, and for each place the lengths and distances of its copies. */
    private static final class Text {
        final int leastLength;
        final int greatestLength;
        final int[] octetRow = new int[MOST_OCTETS];
        int size;
        // By distance: how many octets at the end are the same as those so far before them.
        private final int[] endRuns = new int[MOST_OCTETS];
        // By the last octet of a copy and its length: the least distance.
        private final int[] nearest = new int[MOST_OCTETS * (MOST_OCTETS - 1) / 2];
        private final int[] longestRuns = new int[MOST_OCTETS];

        Text(int form) {
            leastLength = form == SLOT_FORM ? 3 : form == OCTET_FORM ? 4 : 2;
            greatestLength = form == SLOT_FORM ? 258 : form == OCTET_FORM ? 300 : 273;
        }

        boolean has(int place) {
            return place >= 0 && place < size;
        }

        /**
         * A new octet makes longer just those runs that reach the end, so that all copies that end
         * with it are found here, once, and no search has to look for them again.
         */
        void append(int octet) {
            if (size >= MOST_OCTETS) {
                return;
            }
            int last = size;
            octetRow[last] = octet;
            longestRuns[last] = 0;
            endRuns[last] = 0;
            size++;
            int longestEnding = 0;
            for (int d = 1; d <= last; d++) {
                endRuns[d] = octetRow[last - d] == octet ? endRuns[d] + 1 : 0;
                if (endRuns[d] > longestEnding) {
                    noteCopies(last, d, longestEnding + 1);
                    longestEnding = endRuns[d];
                }
            }
        }

        private void noteCopies(int last, int d, int shortest) {
            int most = Math.min(endRuns[d], greatestLength);
            for (int length = shortest; length <= most; length++) {
                nearest[nearestIndex(last, length)] = d;
                longestRuns[last - length + 1] = length;
            }
        }

        /** 0 when there is no copy. */
        int longestCopy(int place) {
            return has(place) && longestRuns[place] >= leastLength ? longestRuns[place] : 0;
        }

        /** 0 when there is no such copy. */
        int copyDistance(int place, int length) {
            if (!has(place) || length < leastLength || length > longestRuns[place]) {
                return 0;
            }
            return nearest[nearestIndex(place + length - 1, length)];
        }

        /** How many octets, up to what a step can have, are the same as those before by d. */
        int sameBy(int place, int d) {
            if (d < 1 || d > place) {
                return 0;
            }
            int bound = Math.min(size - place, greatestLength);
            int length = 0;
            while (length < bound && octetRow[place + length] == octetRow[place + length - d]) {
                length++;
            }
            return length;
        }

        // A copy that ends with octet 'last' has 1 to 'last' octets: place 0 has nothing before it.
        private static int nearestIndex(int last, int length) {
            return last * (last - 1) / 2 + length - 1;
        }
    }

    /** COSTS of the symbols of four classes, and what steps cost by them. */
    private static final class Costs {
        private static final int[] SYMBOLS = {256, 32, 20, 7};
        private static final int[] BASES = {0, 256, 288, 308};
        private static final int[] AT_FIRST = {512, 320, 320, 64};
        private static final int CLASSES = 4;
        private static final int ALL_SYMBOLS = 315;
        private static final int OCTETS = 0;
        private static final int LENGTHS = 1;
        private static final int DISTANCES = 2;
        private static final int KINDS = 3;
        private static final int EXTRA_BIT = 64;

        private final int classes;
        private final int[] values = new int[ALL_SYMBOLS];
        private final int[] times = new int[ALL_SYMBOLS];
        // What a search asks for again and again; prepare() makes them.
        final int[] lengthCosts = new int[MOST_OCTETS + 1];
        final int[] distanceCosts = new int[MOST_OCTETS];

        Costs(int form) {
            classes = form == OCTET_FORM ? 0 : form == SLOT_FORM ? KINDS : CLASSES;
            reset();
        }

        void reset() {
            for (int c = 0; c < CLASSES; c++) {
                Arrays.fill(values, BASES[c], BASES[c] + SYMBOLS[c], AT_FIRST[c]);
            }
        }

        boolean has(int kind, int symbol) {
            return kind >= 0 && kind < classes && symbol >= 0 && symbol < SYMBOLS[kind];
        }

        /** 0 for what the form does not have, so that its steps cost nothing for it. */
        int of(int kind, int symbol) {
            return has(kind, symbol) ? values[BASES[kind] + symbol] : 0;
        }

        void put(int kind, int symbol, int v) {
            if (has(kind, symbol)) {
                values[BASES[kind] + symbol] = v;
            }
        }

        void copyFrom(Costs other) {
            System.arraycopy(other.values, 0, values, 0, ALL_SYMBOLS);
        }

        void prepare(Text text) {
            for (int length = text.leastLength; length <= text.size; length++) {
                lengthCosts[length] = lengthCost(length - text.leastLength);
            }
            for (int d = 1; d < text.size; d++) {
                distanceCosts[d] = distanceCost(d - 1);
            }
        }

        int literalCost(int octet) {
            return of(OCTETS, octet) + of(KINDS, LITERAL);
        }

        int kindCost(int kind) {
            return of(KINDS, kind);
        }

        int stepCost(Parse parse, int i, Text text) {
            if (!parse.hasStep(i)) {
                return 0;
            }
            int kind = parse.kinds[i];
            if (kind == LITERAL) {
                return literalCost(text.octetRow[parse.places[i]]);
            }
            if (kind == SHORT) {
                return kindCost(SHORT);
            }
            int cost = kindCost(kind) + lengthCost(parse.lengths[i] - text.leastLength);
            return kind == COPY ? cost + distanceCost(parse.distances[i] - 1) : cost;
        }

        private int lengthCost(int x) {
            return of(LENGTHS, lengthSlot(x)) + EXTRA_BIT * (x < 8 ? 0 : highestBit(x) - 2);
        }

        private int distanceCost(int x) {
            return of(DISTANCES, distanceSlot(x)) + EXTRA_BIT * (x < 4 ? 0 : highestBit(x) - 1);
        }

        private static int lengthSlot(int x) {
            if (x < 8) {
                return x;
            }
            int k = highestBit(x);
            return 4 * (k - 1) + ((x >> (k - 2)) & 3);
        }

        private static int distanceSlot(int x) {
            if (x < 4) {
                return x;
            }
            int k = highestBit(x);
            return 2 * k + ((x >> (k - 1)) & 1);
        }

        void fitTo(Parse parse, Text text) {
            countSymbols(parse, text);
            for (int c = 0; c < classes; c++) {
                fitClass(c);
            }
        }

        private void countSymbols(Parse parse, Text text) {
            Arrays.fill(times, 0);
            for (int i = 0; i < parse.count; i++) {
                int kind = parse.kinds[i];
                countOne(KINDS, kind);
                if (kind == LITERAL) {
                    countOne(OCTETS, text.octetRow[parse.places[i]]);
                } else if (kind != SHORT) {
                    countOne(LENGTHS, lengthSlot(parse.lengths[i] - text.leastLength));
                }
                if (kind == COPY) {
                    countOne(DISTANCES, distanceSlot(parse.distances[i] - 1));
                }
            }
        }

        private void countOne(int kind, int symbol) {
            if (has(kind, symbol)) {
                times[BASES[kind] + symbol]++;
            }
        }

        private void fitClass(int kind) {
            int end = BASES[kind] + SYMBOLS[kind];
            int together = 0;
            for (int i = BASES[kind]; i < end; i++) {
                together += times[i];
            }
            int whole = logOf(together + SYMBOLS[kind]);
            for (int i = BASES[kind]; i < end; i++) {
                values[i] = Math.max(1, whole - logOf(times[i] + 1));
            }
        }
    }

    /** A row of steps, with what was so when it was found. */
    private static final class Parse {
        final int[] places = new int[MOST_OCTETS];
        final int[] lengths = new int[MOST_OCTETS];
        final int[] distances = new int[MOST_OCTETS];
        final int[] kinds = new int[MOST_OCTETS];
        final int[] toldOctets = new int[MOST_OCTETS];
        int count;
        long sumThen;
        boolean leastOfAll;

        boolean hasStep(int i) {
            return i >= 0 && i < count;
        }

        void begin() {
            count = 0;
        }

        void add(int kind, int place, int length, int d) {
            if (count >= MOST_OCTETS) {
                return;
            }
            kinds[count] = kind;
            places[count] = place;
            lengths[count] = length;
            distances[count] = d;
            count++;
        }

        /** For the searches, which know the steps from the end back. */
        void turnRound() {
            for (int i = 0; i < count / 2; i++) {
                int j = count - 1 - i;
                swap(kinds, i, j);
                swap(places, i, j);
                swap(lengths, i, j);
                swap(distances, i, j);
            }
        }

        private static void swap(int[] row, int i, int j) {
            int before = row[i];
            row[i] = row[j];
            row[j] = before;
        }

        void finish(Text text, long sum, boolean isLeast) {
            sumThen = sum;
            leastOfAll = isLeast;
            for (int i = 0; i < count; i++) {
                int place = places[i];
                if (kinds[i] == LITERAL) {
                    toldOctets[place] = text.octetRow[place];
                } else {
                    tellBack(place, lengths[i], distances[i]);
                }
            }
        }

        // One octet after the other: a copy may reach into itself.
        private void tellBack(int place, int length, int d) {
            for (int i = place; i < place + length; i++) {
                toldOctets[i] = toldOctets[i - d];
            }
        }
    }

    /**
     * The four LATEST DISTANCES in one number, nine bits each, the 0-th highest: so two of them
     * stand in the document's order as numbers do, and a SUM above them makes a STATE's key.
     */
    private static final class Latest {
        static final int BITS = 9;
        static final int ALL_BITS = 36;
        static final int MANY = 4;
        static final long MASK = (1L << ALL_BITS) - 1;
        static final long AT_FIRST = (1L << 27) | (1L << 18) | (1L << 9) | 1L;

        static int at(long latest, int k) {
            return (int) (latest >>> (BITS * (3 - k))) & 511;
        }

        static long behindCopy(long latest, int d) {
            return ((long) d << (3 * BITS)) | (latest >>> BITS);
        }

        static long behindAgain(long latest, int k) {
            int shift = BITS * (3 - k);
            long behind = latest & ((1L << shift) - 1);
            long ahead = (latest >>> (shift + BITS)) << shift;
            return ((long) at(latest, k) << (3 * BITS)) | ahead | behind;
        }
    }

    /** GREEDY and LAZY. */
    private static final class Stepper {
        private final Text text;
        private final boolean withLatest;

        Stepper(Text text, boolean withLatest) {
            this.text = text;
            this.withLatest = withLatest;
        }

        /** LAZY by 'ahead' places; by 0 that is GREEDY. */
        void walk(Parse into, int ahead) {
            into.begin();
            long latest = Latest.AT_FIRST;
            int place = 0;
            while (place < text.size) {
                int length = text.longestCopy(place);
                if (length == 0 || longerAhead(place, length, ahead)) {
                    into.add(LITERAL, place, 1, 0);
                    place++;
                    continue;
                }
                int k = againAsLong(latest, place, length);
                if (k < Latest.MANY) {
                    into.add(AGAIN + k, place, length, Latest.at(latest, k));
                    latest = Latest.behindAgain(latest, k);
                } else {
                    int d = text.copyDistance(place, length);
                    into.add(COPY, place, length, d);
                    latest = Latest.behindCopy(latest, d);
                }
                place += length;
            }
        }

        // An AGAIN is never longer than the longest COPY of its place, which may have its distance
        // too: so the COPIES tell alone what is longest.
        private boolean longerAhead(int place, int length, int ahead) {
            for (int i = 1; i <= ahead; i++) {
                if (text.longestCopy(place + i) > length) {
                    return true;
                }
            }
            return false;
        }

        /** The least k of an AGAIN of this length; MANY when there is none. */
        private int againAsLong(long latest, int place, int length) {
            if (!withLatest) {
                return Latest.MANY;
            }
            int k = 0;
            while (k < Latest.MANY && text.sameBy(place, Latest.at(latest, k)) < length) {
                k++;
            }
            return k;
        }
    }

    /** What BEST does, and what a parse costs, in one of the forms. */
    private abstract static class Form {
        final Text text;
        final Costs costs;

        Form(Text text, Costs costs) {
            this.text = text;
            this.costs = costs;
        }

        /** Answers at how many places states were dropped. */
        abstract int findBest(Parse into, int kept);

        long costOf(Parse parse) {
            int sum = 0;
            for (int i = 0; i < parse.count; i++) {
                sum += costs.stepCost(parse, i, text);
            }
            return sum;
        }
    }

    /** Form 0: a place is a state. */
    private static final class SlotForm extends Form {
        private final int[] sums = new int[MOST_OCTETS + 1];
        private final int[] cameBy = new int[MOST_OCTETS + 1];

        SlotForm(Text text, Costs costs) {
            super(text, costs);
        }

        int findBest(Parse into, int kept) {
            costs.prepare(text);
            Arrays.fill(sums, FAR);
            sums[0] = 0;
            for (int place = 0; place < text.size; place++) {
                for (int length = text.longestCopy(place); length >= text.leastLength; length--) {
                    int d = text.copyDistance(place, length);
                    lead(place, length, costs.lengthCosts[length] + costs.distanceCosts[d]);
                }
                lead(place, 1, costs.literalCost(text.octetRow[place]));
            }
            tellSteps(into);
            return 0;
        }

        private void lead(int place, int length, int cost) {
            int sum = sums[place] + cost;
            if (sum < sums[place + length]) {
                sums[place + length] = sum;
                cameBy[place + length] = length;
            }
        }

        private void tellSteps(Parse into) {
            into.begin();
            int end = text.size;
            while (end > 0) {
                int length = Math.max(1, cameBy[end]);
                end -= length;
                if (length == 1) {
                    into.add(LITERAL, end, 1, 0);
                } else {
                    into.add(COPY, end, length, text.copyDistance(end, length));
                }
            }
            into.turnRound();
        }
    }

    /**
     * Form 1: a state is a place and how many literals stand before it. Such a state is reached in
     * one way alone, from the end of the copy before the literals (or the beginning), so that just
     * the states without literals have to be held. All copies of a place cost the same from each of
     * its states, so that they all come from its first state.
     */
    private static final class OctetForm extends Form {
        private static final int OCTET = 512;

        // By place: of the state without literals its sum, and the copy that led to it.
        private final int[] sums = new int[MOST_OCTETS + 1];
        private final int[] cameBy = new int[MOST_OCTETS + 1];
        // By place: of its first state how many literals, and its sum.
        private final int[] firstLiterals = new int[MOST_OCTETS + 1];
        private final int[] firstSums = new int[MOST_OCTETS + 1];
        private final int[] literalCosts = new int[MOST_OCTETS + 1];

        OctetForm(Text text, Costs costs) {
            super(text, costs);
            for (int i = 0; i <= MOST_OCTETS; i++) {
                literalCosts[i] = OCTET * (i + beyond(i, 15));
            }
        }

        int findBest(Parse into, int kept) {
            Arrays.fill(sums, FAR);
            sums[0] = 0;
            for (int place = 0; place < text.size; place++) {
                int length = text.longestCopy(place);
                if (length > 0) {
                    findFirst(place);
                }
                for (; length >= text.leastLength; length--) {
                    lead(place, length);
                }
            }
            findFirst(text.size);
            tellSteps(into);
            return 0;
        }

        private void findFirst(int place) {
            int least = FAR;
            for (int literals = 0; literals <= place; literals++) {
                int before = sums[place - literals];
                if (before != FAR && before + literalCosts[literals] < least) {
                    least = before + literalCosts[literals];
                    firstLiterals[place] = literals;
                }
            }
            firstSums[place] = least;
        }

        private void lead(int place, int length) {
            int sum = firstSums[place] + copyCost(length);
            if (sum < sums[place + length]) {
                sums[place + length] = sum;
                cameBy[place + length] = length;
            }
        }

        private void tellSteps(Parse into) {
            into.begin();
            int end = text.size;
            while (end > 0) {
                int start = end - firstLiterals[end];
                for (int place = end - 1; place >= start; place--) {
                    into.add(LITERAL, place, 1, 0);
                }
                end = start;
                if (start > 0) {
                    int length = Math.max(1, cameBy[start]);
                    end = start - length;
                    into.add(COPY, end, length, text.copyDistance(end, length));
                }
            }
            into.turnRound();
        }

        long costOf(Parse parse) {
            int sum = OCTET;
            int literals = 0;
            for (int i = 0; i < parse.count; i++) {
                if (parse.kinds[i] == LITERAL) {
                    literals++;
                } else {
                    sum += literalCosts[literals] + copyCost(parse.lengths[i]);
                    literals = 0;
                }
            }
            return sum + literalCosts[literals];
        }

        private static int copyCost(int length) {
            return OCTET * (3 + beyond(length, 19));
        }

        /** How many octets more a number takes that has no room below this bound. */
        private static int beyond(int number, int bound) {
            return number < bound ? 0 : 1 + (number - bound) / 255;
        }
    }

    /**
     * Form 2: a state is a place and the latest distances. Of each place only the first KEPT states
     * are ever held. That loses nothing: sums only become less, so that a state behind so many
     * others stays behind them, unless it is reached anew with a lesser sum.
     */
    private static final class LatestForm extends Form {
        // Above every key: sums stay below 2^24.
        private static final long NO_BOUND = 1L << 62;

        // By place and rank: a state's sum and latest distances, and how it was reached.
        private final long[] keys = new long[(MOST_OCTETS + 1) * MOST_KEPT];
        private final int[] cameBy = new int[(MOST_OCTETS + 1) * MOST_KEPT];
        private final int[] held = new int[MOST_OCTETS + 1];
        private final boolean[] dropped = new boolean[MOST_OCTETS];
        // By place: a key above this one can't change anything there any more.
        private final long[] bounds = new long[MOST_OCTETS + 1];
        private int keptStates;
        // The state from which the steps now go.
        private int place;
        private int rank;
        private long sum;
        private long latest;

        LatestForm(Text text, Costs costs) {
            super(text, costs);
        }

        int findBest(Parse into, int kept) {
            begin(kept);
            int droppedPlaces = 0;
            for (int i = 0; i < text.size; i++) {
                for (int r = 0; r < held[i]; r++) {
                    goFrom(i, r);
                }
                if (dropped[i]) {
                    droppedPlaces++;
                }
            }
            tellSteps(into);
            return droppedPlaces;
        }

        private void begin(int kept) {
            costs.prepare(text);
            keptStates = Math.max(1, Math.min(kept, MOST_KEPT));
            for (int i = 0; i < text.size; i++) {
                held[i] = 0;
                dropped[i] = false;
            }
            held[text.size] = 0;
            held[0] = 1;
            Arrays.fill(bounds, NO_BOUND);
            keys[0] = Latest.AT_FIRST;
        }

        private void goFrom(int from, int fromRank) {
            place = from;
            rank = fromRank;
            long key = keys[from * MOST_KEPT + fromRank];
            sum = key >>> Latest.ALL_BITS;
            latest = key & Latest.MASK;
            if (!copiesWereLed()) {
                leadByCopies();
            }
            for (int k = 0; k < Latest.MANY; k++) {
                leadByAgain(k);
            }
            int d = Latest.at(latest, 0);
            if (d <= place && text.octetRow[place] == text.octetRow[place - d]) {
                lead(SHORT, 1, costs.kindCost(SHORT), latest);
            }
            lead(LITERAL, 1, costs.literalCost(text.octetRow[place]), latest);
        }

        // Behind a copy the last of the latest distances is gone: of states that are alike but for it
        // the first alone counts, the others lead to the same states with no lesser sums.
        private boolean copiesWereLed() {
            int first = place * MOST_KEPT;
            for (int i = first; i < first + rank; i++) {
                if (((keys[i] ^ latest) & Latest.MASK) >>> Latest.BITS == 0) {
                    return true;
                }
            }
            return false;
        }

        private void leadByCopies() {
            int kindCost = costs.kindCost(COPY);
            for (int length = text.longestCopy(place); length >= text.leastLength; length--) {
                int d = text.copyDistance(place, length);
                int cost = kindCost + costs.lengthCosts[length] + costs.distanceCosts[d];
                lead(COPY, length, cost, Latest.behindCopy(latest, d));
            }
        }

        private void leadByAgain(int k) {
            int length = text.sameBy(place, Latest.at(latest, k));
            int kindCost = costs.kindCost(AGAIN + k);
            long behind = Latest.behindAgain(latest, k);
            for (; length >= text.leastLength; length--) {
                lead(AGAIN + k, length, kindCost + costs.lengthCosts[length], behind);
            }
        }

        /** Puts the state to which a step leads among those of its place, which stand in order. */
        private void lead(int kind, int length, int cost, long behind) {
            int to = place + length;
            long key = ((sum + cost) << Latest.ALL_BITS) | behind;
            if (key > bounds[to]) {
                return;
            }
            int end = to * MOST_KEPT + held[to];
            int spot = to * MOST_KEPT;
            while (spot < end && keys[spot] <= key) {
                if ((keys[spot] & Latest.MASK) == behind) {
                    return;
                }
                spot++;
            }
            int gap = spot;
            while (gap < end && (keys[gap] & Latest.MASK) != behind) {
                gap++;
            }
            if (gap == end && !makeRoom(to)) {
                gap--;
            }
            if (spot <= gap) {
                insert(spot, gap, key, (rank << 12) | (length << 3) | kind);
            }
            if (to == text.size || dropped[to]) {
                bounds[to] = keys[to * MOST_KEPT + held[to] - 1];
            }
        }

        /** False when the last of the states there has to go instead. */
        private boolean makeRoom(int to) {
            if (held[to] < (to == text.size ? 1 : keptStates)) {
                held[to]++;
                return true;
            }
            // The end is no place: only its first state counts, and nothing is dropped there.
            if (to < text.size) {
                dropped[to] = true;
            }
            return false;
        }

        /** What stands from spot on moves up into the gap. */
        private void insert(int spot, int gap, long key, int by) {
            for (int i = gap; i > spot; i--) {
                keys[i] = keys[i - 1];
                cameBy[i] = cameBy[i - 1];
            }
            keys[spot] = key;
            cameBy[spot] = by;
        }

        private void tellSteps(Parse into) {
            into.begin();
            int end = text.size;
            int at = end * MOST_KEPT;
            while (end > 0) {
                int by = cameBy[at];
                int kind = by & 7;
                int length = Math.max(1, (by >> 3) & 511);
                // Whatever step it was, its distance is now the 0-th.
                int d = kind == LITERAL ? 0 : Latest.at(keys[at] & Latest.MASK, 0);
                end -= length;
                into.add(kind, end, length, d);
                at = end * MOST_KEPT + (by >> 12);
            }
            into.turnRound();
        }
    }

    /** CUTS, and the split of THE TEXT at some of them. */
    private static final class Blocks {
        private static final int MOST_CUTS = 12;

        private final Text text;
        private final int[] cuts = new int[MOST_CUTS];
        int cutCount;
        final int[] takenCuts = new int[MOST_CUTS];
        int takenCount;
        // By bound (the beginning, the cuts, the end): what the blocks from there on cost at least,
        // how many they are, and the bound at which the first of them ends.
        private final long[] restCosts = new long[MOST_CUTS + 2];
        private final int[] restBlocks = new int[MOST_CUTS + 2];
        private final int[] nextBounds = new int[MOST_CUTS + 2];
        private final int[] times = new int[256];

        Blocks(Text text) {
            this.text = text;
        }

        void forget() {
            cutCount = 0;
            takenCount = 0;
        }

        boolean addCut(int place) {
            if (place < 1 || place >= text.size || cutCount >= MOST_CUTS) {
                return false;
            }
            int spot = 0;
            while (spot < cutCount && cuts[spot] < place) {
                spot++;
            }
            if (spot < cutCount && cuts[spot] == place) {
                return false;
            }
            for (int i = cutCount; i > spot; i--) {
                cuts[i] = cuts[i - 1];
            }
            cuts[spot] = place;
            cutCount++;
            return true;
        }

        long divide(int head) {
            int end = cutCount + 1;
            restCosts[end] = 0;
            restBlocks[end] = 0;
            for (int bound = cutCount; bound >= 0; bound--) {
                findRest(bound, head);
            }
            takenCount = 0;
            int bound = nextBounds[0];
            while (bound < end && takenCount < MOST_CUTS) {
                takenCuts[takenCount] = placeOf(bound);
                takenCount++;
                bound = nextBounds[bound];
            }
            return restCosts[0];
        }

        // Nearer bounds come first and stay where others are as good: so the first cut is least.
        private void findRest(int bound, int head) {
            Arrays.fill(times, 0);
            int start = placeOf(bound);
            int place = start;
            int saved = 0;
            for (int next = bound + 1; next <= cutCount + 1; next++) {
                int stop = placeOf(next);
                for (; place < stop; place++) {
                    saved += countOctet(text.octetRow[place]);
                }
                int size = stop - start;
                long cost = head + size * logOf(size) - saved + restCosts[next];
                int many = 1 + restBlocks[next];
                if (next == bound + 1 || cost < restCosts[bound]
                        || cost == restCosts[bound] && many < restBlocks[bound]) {
                    restCosts[bound] = cost;
                    restBlocks[bound] = many;
                    nextBounds[bound] = next;
                }
            }
        }

        /** By how much n LOG(n) of an octet that stands n times becomes more. */
        private int countOctet(int octet) {
            int before = times[octet];
            times[octet] = before + 1;
            return (before + 1) * logOf(before + 1) - before * logOf(before);
        }

        private int placeOf(int bound) {
            if (bound <= 0) {
                return 0;
            }
            return bound <= cutCount ? cuts[bound - 1] : text.size;
        }
    }
}
