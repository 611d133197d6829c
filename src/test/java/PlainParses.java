import java.util.ArrayList;
import java.util.Arrays;
import java.util.Comparator;
import java.util.LinkedHashMap;
import java.util.List;
import java.util.Map;

/**
 * The document once more, word by word and without any thought of speed: every state is held, every
 * copy is looked for anew, every split is tried. The tests compare BestParses with it.
 */
final class PlainParses {
    record Step(int place, int length, int distance, int kind) { }

    private static final class State {
        int literals;
        List<Integer> latest = List.of(1, 1, 1, 1);
        long sum;
        State from;
        Step by;

        String name() {
            return literals + " " + latest;
        }
    }

    private static final int[] SYMBOLS = {256, 32, 20, 7};

    private final int form;
    private final int least;
    private final int greatest;
    private final List<Integer> text = new ArrayList<>();
    private final List<Integer> cuts = new ArrayList<>();
    private List<Integer> taken = new ArrayList<>();
    private int[][] costs = firstCosts();
    private int kept = 8;
    private List<Step> parse;
    private long sum;
    private boolean isLeast;
    private int dropped;
    private Step[][] copies;

    PlainParses(int form) {
        this.form = form < 0 ? 0 : form > 2 ? 2 : form;
        least = new int[] {3, 4, 2}[this.form];
        greatest = new int[] {258, 300, 273}[this.form];
    }

    private static int[][] firstCosts() {
        int[][] rows = new int[4][];
        int[] first = {512, 320, 320, 64};
        for (int c = 0; c < 4; c++) {
            rows[c] = new int[SYMBOLS[c]];
            Arrays.fill(rows[c], first[c]);
        }
        return rows;
    }

    int octets(int n, long octets) {
        if (n < 1 || n > 8 || text.size() + n > 300) {
            return -1;
        }
        for (int i = 0; i < n; i++) {
            text.add((int) ((octets >> (8 * i)) & 0xff));
        }
        parse = null;
        copies = null;
        return text.size();
    }

    private boolean noCost(int kind, int symbol) {
        return kind < 0 || kind > 3 || symbol < 0 || symbol >= SYMBOLS[kind] || form == 1
                || form == 0 && kind == 3;
    }

    int cost(int kind, int symbol, int v) {
        if (noCost(kind, symbol) || v < 1 || v > 10000) {
            return -1;
        }
        int before = costs[kind][symbol];
        costs[kind][symbol] = v;
        return before;
    }

    int price(int kind, int symbol) {
        return noCost(kind, symbol) ? -1 : costs[kind][symbol];
    }

    int keep(int n) {
        if (n < 1 || n > 40 || form != 2) {
            return -1;
        }
        int before = kept;
        kept = n;
        return before;
    }

    int parse(int how) {
        if (how < 0 || how > 3) {
            return -1;
        }
        if (how == 3) {
            best();
        } else {
            stepwise(how);
        }
        return parse.size();
    }

    int step(int i, int what) {
        if (parse == null || i < 0 || i >= parse.size() || what < 0 || what > 3) {
            return -1;
        }
        Step s = parse.get(i);
        return new int[] {s.place, s.length, s.distance, s.kind}[what];
    }

    long sum() {
        return parse == null ? -1 : sum;
    }

    long again() {
        return parse == null ? -1 : priceOf(parse, true);
    }

    boolean least() {
        return parse != null && isLeast;
    }

    int told(int i) {
        if (parse == null || i < 0 || i >= text.size()) {
            return -1;
        }
        List<Integer> told = new ArrayList<>();
        for (Step s : parse) {
            for (int j = 0; j < s.length; j++) {
                told.add(s.kind == 0 ? text.get(s.place) : told.get(told.size() - s.distance));
            }
        }
        return told.get(i);
    }

    long rounds(int n) {
        if (n < 1 || n > 8 || form == 1 || text.isEmpty()) {
            return -1;
        }
        long leastR = Long.MAX_VALUE;
        List<Step> leastParse = null;
        int[][] leastCosts = null;
        long leastSum = 0;
        boolean leastLeast = false;
        for (int i = 0; i < n; i++) {
            best();
            costs = fit(parse);
            long r = priceOf(parse, true);
            if (r < leastR) {
                leastR = r;
                leastParse = parse;
                leastCosts = costs;
                leastSum = sum;
                leastLeast = isLeast;
            }
        }
        parse = leastParse;
        costs = leastCosts;
        sum = leastSum;
        isLeast = leastLeast;
        return leastR;
    }

    int longest(int place) {
        if (place < 0 || place >= text.size()) {
            return -1;
        }
        for (int length = greatest; length >= least; length--) {
            if (copyAt(place, length) != null) {
                return length;
            }
        }
        return 0;
    }

    int distance(int place, int length) {
        if (place < 0 || place >= text.size() || length < least || length > greatest) {
            return -1;
        }
        Step copy = copyAt(place, length);
        return copy == null ? -1 : copy.distance;
    }

    int cut(int place) {
        if (place <= 0 || place >= text.size() || cuts.contains(place) || cuts.size() == 12) {
            return -1;
        }
        cuts.add(place);
        return cuts.size();
    }

    long split(int head) {
        if (head < 0 || head > 100000 || text.isEmpty()) {
            return -1;
        }
        List<Integer> sorted = new ArrayList<>(cuts);
        sorted.sort(Comparator.naturalOrder());
        long leastCost = Long.MAX_VALUE;
        List<Integer> leastCuts = null;
        for (int set = 0; set < 1 << sorted.size(); set++) {
            List<Integer> some = new ArrayList<>();
            for (int i = 0; i < sorted.size(); i++) {
                if ((set >> i & 1) == 1) {
                    some.add(sorted.get(i));
                }
            }
            long cost = costOfBlocks(some, head);
            if (cost < leastCost || cost == leastCost && before(some, leastCuts)) {
                leastCost = cost;
                leastCuts = some;
            }
        }
        taken = leastCuts;
        return leastCost;
    }

    private static boolean before(List<Integer> a, List<Integer> b) {
        if (a.size() != b.size()) {
            return a.size() < b.size();
        }
        for (int i = 0; i < a.size(); i++) {
            if (!a.get(i).equals(b.get(i))) {
                return a.get(i) < b.get(i);
            }
        }
        return false;
    }

    private long costOfBlocks(List<Integer> some, int head) {
        long cost = 0;
        int start = 0;
        for (int i = 0; i <= some.size(); i++) {
            int end = i == some.size() ? text.size() : some.get(i);
            int[] times = new int[256];
            for (int p = start; p < end; p++) {
                times[text.get(p)]++;
            }
            cost += head;
            for (int p = start; p < end; p++) {
                cost += log(end - start) - log(times[text.get(p)]);
            }
            start = end;
        }
        return cost;
    }

    int taken(int k) {
        return k < 0 || k >= taken.size() ? -1 : taken.get(k);
    }

    int many(int what) {
        if (what < 0 || what > 6) {
            return -1;
        }
        return new int[] {text.size(), parse == null ? 0 : parse.size(), cuts.size(), taken.size(),
            dropped, kept, form}[what];
    }

    void clear() {
        text.clear();
        copies = null;
        cuts.clear();
        taken = new ArrayList<>();
        parse = null;
        costs = firstCosts();
        kept = 8;
        dropped = 0;
    }

    int trier(int i) {
        if (i < 0 || i >= text.size()) {
            throw new ArrayIndexOutOfBoundsException();
        }
        return text.get(i);
    }

    static int log(int v) {
        int f = 0;
        while (1 << (f + 1) <= v) {
            f++;
        }
        return 64 * f + 64 * v / (1 << f) - 64;
    }

    private static int power(int x) {
        int k = 0;
        while (1 << (k + 1) <= x) {
            k++;
        }
        return k;
    }

    static int lengthSlot(int x) {
        int k = power(x);
        return x < 8 ? x : 4 * (k - 1) + x % (1 << k) / (1 << (k - 2));
    }

    static int lengthExtra(int x) {
        return x < 8 ? 0 : power(x) - 2;
    }

    static int distanceSlot(int x) {
        int k = power(x);
        return x < 4 ? x : 2 * k + x % (1 << k) / (1 << (k - 1));
    }

    static int distanceExtra(int x) {
        return x < 4 ? 0 : power(x) - 1;
    }

    private boolean same(int place, int length, int distance) {
        if (distance > place || place + length > text.size()) {
            return false;
        }
        for (int i = place; i < place + length; i++) {
            if (!text.get(i).equals(text.get(i - distance))) {
                return false;
            }
        }
        return true;
    }

    private Step copyAt(int place, int length) {
        if (copies == null) {
            copies = new Step[301][301];
            for (int p = 0; p < text.size(); p++) {
                fillCopies(p);
            }
        }
        return copies[place][length];
    }

    private void fillCopies(int place) {
        for (int length = least; length <= greatest; length++) {
            int d = 1;
            while (d <= place && !same(place, length, d)) {
                d++;
            }
            if (d > place) {
                return;
            }
            copies[place][length] = new Step(place, length, d, 1);
        }
    }

    private Step againAt(int place, int length, List<Integer> latest, int k) {
        int d = latest.get(k);
        return length <= greatest && same(place, length, d) ? new Step(place, length, d, 2 + k) : null;
    }

    private static List<Integer> latestAfter(List<Integer> latest, Step step) {
        if (step.kind == 0 || step.kind == 6) {
            return latest;
        }
        List<Integer> after = new ArrayList<>(latest);
        after.remove(step.kind == 1 ? 3 : step.kind - 2);
        after.add(0, step.distance);
        return after;
    }

    private Step longestStep(int place, List<Integer> latest) {
        for (int length = greatest; length >= 2; length--) {
            if (place + length > text.size()) {
                continue;
            }
            for (int k = 0; k < 4 && form == 2; k++) {
                if (againAt(place, length, latest, k) != null) {
                    return againAt(place, length, latest, k);
                }
            }
            if (length >= least && copyAt(place, length) != null) {
                return copyAt(place, length);
            }
        }
        return null;
    }

    private void stepwise(int lazy) {
        parse = new ArrayList<>();
        List<Integer> latest = List.of(1, 1, 1, 1);
        int place = 0;
        while (place < text.size()) {
            Step step = longestStep(place, latest);
            for (int i = 1; i <= lazy && step != null && place + i < text.size(); i++) {
                Step later = longestStep(place + i, latest);
                if (later != null && later.length > step.length) {
                    step = null;
                }
            }
            if (step == null) {
                step = new Step(place, 1, 0, 0);
            }
            parse.add(step);
            latest = latestAfter(latest, step);
            place += step.length;
        }
        sum = priceOf(parse, true);
        isLeast = false;
    }

    private List<Step> stepsFrom(int place, List<Integer> latest) {
        List<Step> steps = new ArrayList<>();
        int most = Math.min(greatest, text.size() - place);
        for (int length = most; length >= least; length--) {
            if (copyAt(place, length) != null) {
                steps.add(copyAt(place, length));
            }
        }
        for (int k = 0; k < 4 && form == 2; k++) {
            for (int length = most; length >= 2; length--) {
                if (againAt(place, length, latest, k) != null) {
                    steps.add(againAt(place, length, latest, k));
                }
            }
        }
        if (form == 2 && same(place, 1, latest.get(0))) {
            steps.add(new Step(place, 1, latest.get(0), 6));
        }
        steps.add(new Step(place, 1, 0, 0));
        return steps;
    }

    private static int compare(State a, State b) {
        int c = Long.compare(a.sum, b.sum);
        c = c != 0 ? c : Integer.compare(a.literals, b.literals);
        for (int k = 0; k < 4 && c == 0; k++) {
            c = Integer.compare(a.latest.get(k), b.latest.get(k));
        }
        return c;
    }

    private void best() {
        List<Map<String, State>> states = new ArrayList<>();
        for (int p = 0; p <= text.size(); p++) {
            states.add(new LinkedHashMap<>());
        }
        State start = new State();
        states.get(0).put(start.name(), start);
        dropped = 0;
        for (int p = 0; p < text.size(); p++) {
            List<State> here = new ArrayList<>(states.get(p).values());
            here.sort(PlainParses::compare);
            if (form == 2 && here.size() > kept) {
                dropped++;
                here = here.subList(0, kept);
            }
            states.set(p, null);
            for (State state : here) {
                for (Step step : stepsFrom(p, state.latest)) {
                    reach(states.get(p + step.length), state, step);
                }
            }
        }
        List<State> last = new ArrayList<>(states.get(text.size()).values());
        last.sort(PlainParses::compare);
        parse = new ArrayList<>();
        for (State s = last.get(0); s.from != null; s = s.from) {
            parse.add(0, s.by);
        }
        sum = last.get(0).sum + (form == 1 ? 512 : 0);
        isLeast = dropped == 0;
    }

    private void reach(Map<String, State> there, State from, Step step) {
        State next = new State();
        next.from = from;
        next.by = step;
        if (form == 1) {
            next.literals = step.kind == 0 ? from.literals + 1 : 0;
            next.sum = from.sum + (step.kind == 0
                    ? 512 * (literalOctets(next.literals) - literalOctets(from.literals))
                    : 512 * copyOctets(step.length));
        } else {
            next.sum = from.sum + priceOf(List.of(step), false);
        }
        if (form == 2) {
            next.latest = latestAfter(from.latest, step);
        }
        State was = there.get(next.name());
        if (was == null || was.sum > next.sum) {
            there.put(next.name(), next);
        }
    }

    private static int literalOctets(int literals) {
        return literals < 15 ? literals : literals + 1 + (literals - 15) / 255;
    }

    private static int copyOctets(int length) {
        return length < 19 ? 3 : 4 + (length - 19) / 255;
    }

    private long priceOf(List<Step> steps, boolean withEnd) {
        long price = 0;
        int literals = 0;
        for (Step s : steps) {
            if (form == 1) {
                if (s.kind == 0) {
                    literals++;
                } else {
                    price += 512 * (literalOctets(literals) + copyOctets(s.length));
                    literals = 0;
                }
                continue;
            }
            price += form == 2 ? costs[3][s.kind] : 0;
            if (s.kind == 0) {
                price += costs[0][text.get(s.place)];
            }
            if (s.kind >= 1 && s.kind <= 5) {
                int x = s.length - least;
                price += costs[1][lengthSlot(x)] + 64 * lengthExtra(x);
            }
            if (s.kind == 1) {
                int x = s.distance - 1;
                price += costs[2][distanceSlot(x)] + 64 * distanceExtra(x);
            }
        }
        return price + 512 * literalOctets(literals) + (form == 1 && withEnd ? 512 : 0);
    }

    private int[][] fit(List<Step> steps) {
        int[][] times = new int[4][];
        for (int c = 0; c < 4; c++) {
            times[c] = new int[SYMBOLS[c]];
        }
        for (Step s : steps) {
            times[3][s.kind]++;
            if (s.kind == 0) {
                times[0][text.get(s.place)]++;
            }
            if (s.kind >= 1 && s.kind <= 5) {
                times[1][lengthSlot(s.length - least)]++;
            }
            if (s.kind == 1) {
                times[2][distanceSlot(s.distance - 1)]++;
            }
        }
        int[][] fitted = new int[4][];
        for (int c = 0; c < 4; c++) {
            int together = Arrays.stream(times[c]).sum();
            fitted[c] = new int[SYMBOLS[c]];
            for (int i = 0; i < SYMBOLS[c]; i++) {
                int cost = log(together + SYMBOLS[c]) - log(times[c][i] + 1);
                fitted[c][i] = cost < 1 ? 1 : cost;
            }
        }
        return fitted;
    }
}
