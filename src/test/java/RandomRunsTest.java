import java.util.Random;

/** Runs of calls, the same ones every time, on BestParses and on PlainParses: all answers are alike. */
public final class RandomRunsTest {
    private static final int RUNS = 400;

    private final Random random;
    private final int run;
    private final BestParses got;
    private final PlainParses due;
    private final int alphabet;
    private final int mostOctets;
    private int wrong;
    private int calls;

    private RandomRunsTest(int run) {
        this.run = run;
        random = new Random(run);
        int form = random.nextInt(12) == 0 ? random.nextInt() : random.nextInt(3);
        got = new BestParses(form);
        due = new PlainParses(form);
        alphabet = new int[] {1, 2, 2, 3, 4, 8, 256}[random.nextInt(7)];
        mostOctets = random.nextInt(8) == 0 ? 300 : random.nextInt(4) == 0 ? 140 : 60;
    }

    public static void main(String[] args) {
        int wrong = 0;
        long calls = 0;
        for (int run = 0; run < RUNS; run++) {
            RandomRunsTest test = new RandomRunsTest(run);
            test.go();
            wrong += test.wrong;
            calls += test.calls;
        }
        System.out.println(RUNS + " runs, " + calls + " calls, " + wrong + " wrong answers");
        if (wrong != 0) {
            System.exit(1);
        }
    }

    private void go() {
        if (random.nextInt(3) == 0) {
            someCosts();
        }
        if (random.nextBoolean()) {
            int n = random.nextInt(44) - 1;
            same("keep(" + n + ")", got.keep(n), due.keep(n));
        }
        if (mostOctets == 300 && random.nextBoolean()) {
            farApart();
        }
        int left = 120;
        while (left > 0 && wrong == 0) {
            left--;
            oneCall();
        }
        compareAll();
    }

    private void same(String call, long answer, long wanted) {
        calls++;
        if (answer != wanted) {
            wrong++;
            System.out.println("run " + run + ": " + call + " answered " + answer + ", due is " + wanted);
        }
    }

    private void someCosts() {
        for (int i = 0; i < 60; i++) {
            int kind = random.nextInt(4);
            int symbol = random.nextInt(new int[] {alphabet, 32, 20, 7}[kind]);
            int v = random.nextInt(9) == 0 ? random.nextInt(10003) : 1 + random.nextInt(8) * 64;
            same("cost(" + kind + ", " + symbol + ", " + v + ")",
                    got.cost(kind, symbol, v), due.cost(kind, symbol, v));
        }
    }

    private long octets() {
        long octets = 0;
        for (int i = 0; i < 8; i++) {
            octets = octets << 8 | random.nextInt(alphabet);
        }
        return octets;
    }

    /** Octets that come twice at most, so that there are copies by great distances alone. */
    private void farApart() {
        for (int i = 0; i < 30; i++) {
            long octets = 0;
            for (int j = 0; j < 8; j++) {
                octets = octets << 8 | (8 * i + j);
            }
            same("octets(8, " + octets + ")", got.octets(8, octets), due.octets(8, octets));
        }
    }

    private void addOctets() {
        int n = random.nextInt(20) == 0 ? random.nextInt(12) - 1 : 1 + random.nextInt(8);
        long octets = octets();
        int size = due.many(0);
        if (size > 8 && random.nextBoolean()) {
            // What stood before, so that there are long copies by many distances.
            int from = random.nextInt(size - 7);
            octets = 0;
            for (int i = 7; i >= 0; i--) {
                octets = octets << 8 | due.trier(from + i);
            }
        }
        if (size + n <= mostOctets || random.nextInt(10) == 0) {
            same("octets(" + n + ", " + octets + ")", got.octets(n, octets), due.octets(n, octets));
        }
    }

    private void oneCall() {
        int size = due.many(0);
        int place = random.nextInt(size + 3) - 1;
        int n = random.nextInt(11) - 1;
        switch (random.nextInt(24)) {
            case 0: {
                int how = random.nextInt(6) - 1;
                same("parse(" + how + ")", got.parse(how), due.parse(how));
                compareParse();
                break;
            }
            case 1:
                same("parse(3)", got.parse(3), due.parse(3));
                compareParse();
                break;
            case 2:
                n = random.nextInt(3) == 0 ? n : 2;
                same("rounds(" + n + ")", got.rounds(n), due.rounds(n));
                compareParse();
                break;
            case 3:
                same("longest(" + place + ")", got.longest(place), due.longest(place));
                break;
            case 4: {
                int length = random.nextInt(size + 3);
                same("distance(" + place + ", " + length + ")",
                        got.distance(place, length), due.distance(place, length));
                break;
            }
            case 5:
            case 6:
                same("cut(" + place + ")", got.cut(place), due.cut(place));
                break;
            case 7: {
                int head = random.nextInt(6) == 0 ? random.nextInt(100003) - 1 : random.nextInt(900);
                same("split(" + head + ")", got.split(head), due.split(head));
                compareTaken();
                break;
            }
            case 8:
                if (random.nextInt(12) == 0) {
                    got.clear();
                    due.clear();
                    compareAll();
                }
                break;
            case 9:
                if (random.nextInt(4) == 0) {
                    someCosts();
                    same("again()", got.again(), due.again());
                }
                break;
            case 10:
                n = random.nextInt(44) - 1;
                same("keep(" + n + ")", got.keep(n), due.keep(n));
                break;
            case 11: {
                int kind = random.nextInt(6) - 1;
                int symbol = random.nextInt(260) - 1;
                same("price(" + kind + ", " + symbol + ")", got.price(kind, symbol), due.price(kind, symbol));
                break;
            }
            case 12:
                same("trier(" + place + ")", gotTrier(place), dueTrier(place));
                break;
            default:
                addOctets();
        }
    }

    private long gotTrier(int i) {
        try {
            return got.trier(i);
        } catch (ArrayIndexOutOfBoundsException e) {
            return Long.MIN_VALUE;
        }
    }

    private long dueTrier(int i) {
        try {
            return due.trier(i);
        } catch (ArrayIndexOutOfBoundsException e) {
            return Long.MIN_VALUE;
        }
    }

    private void compareMany() {
        for (int what = -1; what <= 7; what++) {
            same("many(" + what + ")", got.many(what), due.many(what));
        }
    }

    private void compareParse() {
        compareMany();
        same("sum()", got.sum(), due.sum());
        same("again()", got.again(), due.again());
        same("least()", got.least() ? 1 : 0, due.least() ? 1 : 0);
        for (int i = -1; i <= due.many(1); i++) {
            for (int what = -1; what <= 4; what++) {
                same("step(" + i + ", " + what + ")", got.step(i, what), due.step(i, what));
            }
        }
        for (int i = -1; i <= due.many(0); i++) {
            same("told(" + i + ")", got.told(i), due.told(i));
        }
    }

    private void compareTaken() {
        for (int k = -1; k <= 12; k++) {
            same("taken(" + k + ")", got.taken(k), due.taken(k));
        }
    }

    private void compareAll() {
        compareParse();
        compareTaken();
        int[] symbols = {256, 32, 20, 7};
        for (int kind = 0; kind < 4; kind++) {
            for (int symbol = -1; symbol <= symbols[kind]; symbol++) {
                same("price(" + kind + ", " + symbol + ")", got.price(kind, symbol), due.price(kind, symbol));
            }
        }
        for (int place = -1; place <= due.many(0); place++) {
            int longest = due.longest(place);
            same("longest(" + place + ")", got.longest(place), longest);
            for (int length = 0; length <= longest + 1; length++) {
                same("distance(" + place + ", " + length + ")",
                        got.distance(place, length), due.distance(place, length));
            }
            same("trier(" + place + ")", gotTrier(place), dueTrier(place));
        }
    }
}
