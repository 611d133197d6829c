import java.util.Random;

/** Short texts told in every way that there is: none costs less than BEST when that is LEAST. */
public final class EveryWayTest {
    private final int form;
    private final int[] text;
    private final BestParses x;
    private final int least;
    private long cheapest = Long.MAX_VALUE;

    private EveryWayTest(int form, int[] text, Random random) {
        this.form = form;
        this.text = text;
        least = new int[] {3, 4, 2}[form];
        x = new BestParses(form);
        x.keep(40);
        for (int octet : text) {
            x.octets(1, octet);
        }
        for (int i = 0; i < 30; i++) {
            x.cost(0, random.nextInt(3), 1 + random.nextInt(900));
            x.cost(1, random.nextInt(12), 1 + random.nextInt(900));
            x.cost(2, random.nextInt(8), 1 + random.nextInt(900));
            x.cost(3, random.nextInt(7), 1 + random.nextInt(300));
        }
    }

    public static void main(String[] args) {
        int wrong = 0;
        int least = 0;
        Random random = new Random(11);
        for (int run = 0; run < 600; run++) {
            int[] text = new int[1 + random.nextInt(11)];
            int alphabet = 1 + random.nextInt(3);
            for (int i = 0; i < text.length; i++) {
                text[i] = random.nextInt(alphabet);
            }
            EveryWayTest test = new EveryWayTest(run % 3, text, random);
            test.tell(0, 0, 0, new int[] {1, 1, 1, 1});
            test.x.parse(3);
            least += test.x.least() ? 1 : 0;
            boolean fits = test.x.least() ? test.x.sum() == test.cheapest : test.x.sum() >= test.cheapest;
            for (int how = 0; how < 3; how++) {
                test.x.parse(how);
                fits &= test.x.sum() >= test.cheapest;
            }
            if (!fits) {
                wrong++;
                System.out.println("run " + run + ": cheapest is " + test.cheapest + ", BEST " + test.x.sum());
            }
        }
        System.out.println("600 texts, " + least + " of them LEAST, " + wrong + " wrong");
        if (wrong != 0 || least < 400) {
            System.exit(1);
        }
    }

    private void tell(int place, int literals, long sum, int[] latest) {
        if (place == text.length) {
            long whole = form == 1 ? sum + 512 + row(literals) : sum;
            cheapest = Math.min(cheapest, whole);
            return;
        }
        long literal = form == 1 ? 512 : x.price(0, text[place]) + kind(0);
        tell(place + 1, literals + 1, sum + literal, latest);
        for (int length = least; place + length <= text.length; length++) {
            int d = 1;
            while (d <= place && !same(place, length, d)) {
                d++;
            }
            if (d <= place) {
                long copy = form == 1 ? 512 * 3 + row(literals) : kind(1) + lengthCost(length) + distanceCost(d);
                tell(place + length, 0, sum + copy, new int[] {d, latest[0], latest[1], latest[2]});
            }
        }
        if (form == 2) {
            tellAgain(place, sum, latest);
        }
    }

    private void tellAgain(int place, long sum, int[] latest) {
        if (same(place, 1, latest[0])) {
            tell(place + 1, 0, sum + kind(6), latest);
        }
        for (int k = 0; k < 4; k++) {
            int[] moved = latest.clone();
            System.arraycopy(latest, 0, moved, 1, k);
            moved[0] = latest[k];
            for (int length = 2; same(place, length, latest[k]); length++) {
                tell(place + length, 0, sum + kind(2 + k) + lengthCost(length), moved);
            }
        }
    }

    private boolean same(int place, int length, int d) {
        if (d > place || place + length > text.length) {
            return false;
        }
        for (int i = place; i < place + length; i++) {
            if (text[i] != text[i - d]) {
                return false;
            }
        }
        return true;
    }

    private static long row(int literals) {
        return literals < 15 ? 0 : 512;
    }

    private int kind(int k) {
        return form == 2 ? x.price(3, k) : 0;
    }

    // Texts of up to 11 octets have lengths with x up to 8 and distances with x up to 9.
    private int lengthCost(int length) {
        int n = length - least;
        return n < 8 ? x.price(1, n) : x.price(1, 8) + 64;
    }

    private int distanceCost(int d) {
        int[] slots = {0, 1, 2, 3, 4, 4, 5, 5, 6, 6};
        int[] extra = {0, 0, 0, 0, 1, 1, 1, 1, 2, 2};
        return x.price(2, slots[d - 1]) + 64 * extra[d - 1];
    }
}
