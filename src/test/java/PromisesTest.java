/** Each promise by answers that were worked out by hand from the document. */
public final class PromisesTest extends Checks {
    public static void main(String[] args) {
        newObject();
        octets();
        costAndPrice();
        keep();
        greedy();
        lazy();
        greedyWithLatest();
        best();
        bestOfLikeSums();
        bestWithLatest();
        octetForm();
        greatestLengths();
        steps();
        sumAndAgain();
        leastAndDropped();
        told();
        rounds();
        roundsOneByOne();
        copies();
        cuts();
        split();
        splitOfLikeCosts();
        many();
        clear();
        trier();
        greatestCosts();
        finish();
    }

    private static void newObject() {
        part = "promise 1";
        due("NONE", BestParses.NONE, -1);
        int[][] forms = {{0, 0}, {1, 1}, {2, 2}, {-1, 0}, {3, 2}, {Integer.MIN_VALUE, 0},
            {Integer.MAX_VALUE, 2}};
        for (int[] f : forms) {
            BestParses x = new BestParses(f[0]);
            due("many(6) of form " + f[0], x.many(6), f[1]);
            due("many(0)", x.many(0), 0);
            due("sum()", x.sum(), -1);
            due("again()", x.again(), -1);
            due("least()", x.least(), false);
            due("told(0)", x.told(0), -1);
            due("step(0, 0)", x.step(0, 0), -1);
            due("taken(0)", x.taken(0), -1);
            due("longest(0)", x.longest(0), -1);
        }
    }

    private static void octets() {
        part = "promise 2";
        BestParses x = new BestParses(0);
        due("octets(0, 5)", x.octets(0, 5), -1);
        due("octets(-1, 5)", x.octets(-1, 5), -1);
        due("octets(9, 5)", x.octets(9, 5), -1);
        due("octets(MIN, 5)", x.octets(Integer.MIN_VALUE, 5), -1);
        due("octets(MAX, 5)", x.octets(Integer.MAX_VALUE, 5), -1);
        due("many(0)", x.many(0), 0);
        due("octets(8, ..)", x.octets(8, 0xf102030405060708L), 8);
        int[] want = {8, 7, 6, 5, 4, 3, 2, 0xf1};
        for (int i = 0; i < 8; i++) {
            due("trier(" + i + ")", x.trier(i), want[i]);
        }
        due("octets(2, -2)", x.octets(2, -2), 10);
        due("trier(8)", x.trier(8), 254);
        due("trier(9)", x.trier(9), 255);
        x.parse(0);
        due("octets(9, 0) refused", x.octets(9, 0), -1);
        due("sum() still there", x.sum() != -1, true);
        x.octets(1, 0);
        due("sum() behind octets", x.sum(), -1);
        due("many(1) behind octets", x.many(1), 0);
        due("least() behind octets", x.least(), false);
        due("told(0) behind octets", x.told(0), -1);
        add(x, same('x', 285));
        due("many(0)", x.many(0), 296);
        due("octets(5, 0)", x.octets(5, 0), -1);
        due("octets(3, 0)", x.octets(3, 0), 299);
        due("octets(2, 0)", x.octets(2, 0), -1);
        due("octets(1, 9)", x.octets(1, 9), 300);
        due("octets(1, 9)", x.octets(1, 9), -1);
        due("trier(299)", x.trier(299), 9);
    }

    private static void costAndPrice() {
        int[] symbols = {256, 32, 20, 7};
        int[] first = {512, 320, 320, 64};
        for (int form = 0; form < 3; form++) {
            BestParses x = new BestParses(form);
            for (int kind = 0; kind < 4; kind++) {
                boolean there = form == 2 || form == 0 && kind < 3;
                for (int symbol : new int[] {0, symbols[kind] - 1}) {
                    part = "promises 3 and 4, form " + form + ", class " + kind + ", symbol " + symbol;
                    due("price", x.price(kind, symbol), there ? first[kind] : -1);
                    due("cost 0", x.cost(kind, symbol, 0), -1);
                    due("cost 10001", x.cost(kind, symbol, 10001), -1);
                    due("cost 10000", x.cost(kind, symbol, 10000), there ? first[kind] : -1);
                    due("cost 1", x.cost(kind, symbol, 1), there ? 10000 : -1);
                    due("price", x.price(kind, symbol), there ? 1 : -1);
                }
                due("cost below", x.cost(kind, -1, 5), -1);
                due("cost beyond", x.cost(kind, symbols[kind], 5), -1);
                due("price below", x.price(kind, -1), -1);
                due("price beyond", x.price(kind, symbols[kind]), -1);
                due("price of another", x.price(kind, 1), there ? first[kind] : -1);
            }
            due("cost(-1)", x.cost(-1, 0, 5), -1);
            due("cost(4)", x.cost(4, 0, 5), -1);
            due("price(-1)", x.price(-1, 0), -1);
            due("price(4)", x.price(4, 0), -1);
            due("price(MIN, MIN)", x.price(Integer.MIN_VALUE, Integer.MIN_VALUE), -1);
            due("price(MAX, MAX)", x.price(Integer.MAX_VALUE, Integer.MAX_VALUE), -1);
        }
    }

    private static void keep() {
        part = "promise 5";
        BestParses x = new BestParses(2);
        due("keep(0)", x.keep(0), -1);
        due("keep(41)", x.keep(41), -1);
        due("many(5)", x.many(5), 8);
        due("keep(1)", x.keep(1), 8);
        due("keep(40)", x.keep(40), 1);
        due("keep(-3)", x.keep(-3), -1);
        due("many(5)", x.many(5), 40);
        due("keep(5) in form 0", new BestParses(0).keep(5), -1);
        due("keep(5) in form 1", new BestParses(1).keep(5), -1);
    }

    private static void greedy() {
        part = "promise 6, greedy";
        BestParses x = with(0, "abcabcabc");
        due("parse(-1)", x.parse(-1), -1);
        due("parse(4)", x.parse(4), -1);
        due("many(1)", x.many(1), 0);
        due("parse(0)", x.parse(0), 4);
        dueSteps(x, literals(3, "3 6 3 1"));
        due("sum()", x.sum(), 3 * 512 + 320 + 320);
        due("parse(4)", x.parse(4), -1);
        due("sum() stays", x.sum(), 3 * 512 + 320 + 320);
        due("empty", new BestParses(1).parse(0), 0);
        // Two octets are no copy in forms 0 and 1, three none in form 1.
        due("abcab in form 0", with(0, "abcab").parse(0), 5);
        due("abcab in form 2", with(2, "abcab").parse(0), 4);
        due("abcabc in form 1", with(1, "abcabc").parse(0), 6);
        due("abcdabcd in form 1", with(1, "abcdabcd").parse(0), 5);
    }

    private static void lazy() {
        part = "promise 6, lazy";
        // At 9 three octets by 9, at 10 four by 6.
        BestParses x = with(0, "abcxbcdeyabcde");
        x.parse(0);
        dueSteps(x, literals(9, "9 3 9 1", "12 1 0 0", "13 1 0 0"));
        due("sum() greedy", x.sum(), 11 * 512 + 320 + 320 + 2 * 64);
        x.parse(1);
        dueSteps(x, literals(10, "10 4 6 1"));
        due("sum() lazy", x.sum(), 10 * 512 + 320 + 320 + 64);
        due("least()", x.least(), false);
        // At 9 three octets by 9, at 10 none, at 11 four by 7.
        x = with(0, "abcxcdefyabcdef");
        x.parse(1);
        dueSteps(x, literals(9, "9 3 9 1", "12 3 7 1"));
        x.parse(2);
        dueSteps(x, literals(11, "11 4 7 1"));
        // One as long further on is no longer one: at 9 three octets by 9, at 10 three by 6.
        x = with(0, "abcxbcdyzabcd");
        x.parse(2);
        dueSteps(x, literals(9, "9 3 9 1", "12 1 0 0"));
    }

    private static void greedyWithLatest() {
        part = "promise 6, greedy in form 2";
        BestParses x = with(2, "aaaa");
        x.parse(0);
        dueSteps(x, "0 1 0 0", "1 3 1 2");
        due("sum()", x.sum(), 512 + 64 + 64 + 320);
        // The copy by 4 puts 4 ahead, so that by 1 is AGAIN 1 then.
        x = with(2, "abcdabcddddabcd");
        x.parse(0);
        dueSteps(x, literals(4, "4 4 4 1", "8 3 1 3", "11 4 7 1"));
        // One octet is told by no SHORT.
        x = with(2, "abcabb");
        x.parse(0);
        dueSteps(x, literals(3, "3 2 3 1", "5 1 0 0"));
        // Behind three copies the 1 of the beginning is the last of the latest distances, behind AGAIN 3
        // the first; behind four copies it has gone.
        String three = "abcdefghijklabdegh";
        x = with(2, three + "zzz" + "w" + "ww");
        x.parse(0);
        dueSteps(x, literals(12, "12 2 12 1", "14 2 11 1", "16 2 10 1", "18 1 0 0", "19 2 1 5",
                "21 1 0 0", "22 2 1 2"));
        x = with(2, three + "jk" + "zzz");
        x.parse(0);
        dueSteps(x, literals(12, "12 2 12 1", "14 2 11 1", "16 2 10 1", "18 2 9 1", "20 1 0 0",
                "21 2 1 1"));
    }

    private static void best() {
        part = "promise 6, best";
        BestParses x = with(0, "abcxbcdeyabcde");
        due("parse(3)", x.parse(3), 11);
        dueSteps(x, literals(10, "10 4 6 1"));
        due("sum()", x.sum(), 10 * 512 + 320 + 320 + 64);
        // Dear copies are left alone, and so are dear literals.
        x.cost(1, 1, 10000);
        x.parse(3);
        dueSteps(x, literals(11, "11 3 6 1"));
        x.cost(1, 0, 10000);
        x.parse(3);
        dueSteps(x, literals(14));
        x.cost(0, 'a', 9999);
        x.parse(3);
        dueSteps(x, literals(9, "9 3 9 1", "12 1 0 0", "13 1 0 0"));
        // The x of 11 octets is 8, with an EXTRA bit.
        x = with(0, same('a', 12));
        x.parse(3);
        dueSteps(x, "0 1 0 0", "1 11 1 1");
        due("sum()", x.sum(), 512 + 320 + 64 + 320);
        x.cost(1, 8, 2000);
        x.cost(0, 'a', 10);
        x.parse(3);
        dueSteps(x, literals(12));
    }

    private static void bestOfLikeSums() {
        part = "promise 6, best of like sums";
        // The copy at 3 costs what three literals cost, and was there first.
        BestParses x = with(0, "abcabc");
        x.cost(0, 'a', 200);
        x.cost(0, 'b', 220);
        x.cost(0, 'c', 220);
        x.parse(3);
        dueSteps(x, literals(3, "3 3 3 1"));
        x.cost(0, 'c', 219);
        x.parse(3);
        dueSteps(x, literals(6));
        // SHORT comes before the LITERAL.
        x = with(2, "aa");
        x.parse(3);
        dueSteps(x, "0 1 0 0", "1 1 1 6");
        x.cost(3, 6, 576);
        x.parse(3);
        dueSteps(x, "0 1 0 0", "1 1 1 6");
        x.cost(3, 6, 577);
        x.parse(3);
        dueSteps(x, literals(2));
        // AGAIN 0 comes before AGAIN 1, and a COPY before both.
        x = with(2, "aaa");
        x.cost(3, 6, 10000);
        x.parse(3);
        dueSteps(x, "0 1 0 0", "1 2 1 2");
        x.cost(3, 2, 65);
        x.parse(3);
        dueSteps(x, "0 1 0 0", "1 2 1 3");
        x.cost(3, 3, 10000);
        x.cost(3, 4, 10000);
        x.parse(3);
        dueSteps(x, "0 1 0 0", "1 2 1 5");
        x.cost(3, 2, 384);
        x.cost(3, 5, 384);
        x.parse(3);
        dueSteps(x, "0 1 0 0", "1 2 1 1");
    }

    private static void bestWithLatest() {
        part = "promise 6, best in form 2";
        BestParses x = with(2, "abcdefgXabcdefgYabcdefg");
        due("parse(3)", x.parse(3), 11);
        dueSteps(x, literals(8, "8 7 8 1", "15 1 0 0", "16 7 8 2"));
        due("sum()", x.sum(), 9 * 576 + 64 + 320 + 320 + 64 + 64 + 320);
        due("least()", x.least(), true);
        // By 1 at the beginning there is nothing so far back.
        x = with(2, "zzzz");
        x.cost(3, 6, 10000);
        x.parse(3);
        dueSteps(x, "0 1 0 0", "1 3 1 2");
    }

    private static void octetForm() {
        part = "promise 6, form 1";
        int[][] wanted = {{14, 15}, {15, 17}, {16, 18}, {269, 271}, {270, 273}};
        for (int[] w : wanted) {
            BestParses x = with(1, different(w[0]));
            for (int how = 0; how < 4; how++) {
                due("parse(" + how + ")", x.parse(how), w[0]);
                due("sum() of " + w[0], x.sum(), 512L * w[1]);
                due("again() of " + w[0], x.again(), 512L * w[1]);
                due("least() of " + how, x.least(), how == 3);
            }
        }
        int[][] copies = {{18, 5}, {19, 6}, {273, 6}, {274, 7}, {299, 7}};
        for (int[] c : copies) {
            BestParses x = with(1, same('q', c[0] + 1));
            for (int how = 0; how < 4; how++) {
                due("parse(" + how + ")", x.parse(how), 2);
                due("length of the copy", x.step(1, 1), c[0]);
                due("sum() of " + c[0], x.sum(), 512L * c[1]);
            }
        }
        // The literals are counted anew behind a copy: 14, a copy of 4, and 14.
        BestParses x = with(1, different(14) + different(4) + different(114).substring(100));
        x.parse(3);
        due("sum() of two rows", x.sum(), 512L * (14 + 3 + 14 + 1));
        x = with(1, different(14) + different(4) + different(115).substring(100));
        x.parse(3);
        due("sum() of two rows", x.sum(), 512L * (14 + 3 + 15 + 1 + 1));
        due("rounds(1)", x.rounds(1), -1);
    }

    private static void greatestLengths() {
        part = "greatest lengths";
        BestParses x = with(0, same('q', 300));
        due("longest(1)", x.longest(1), 258);
        due("longest(42)", x.longest(42), 258);
        due("longest(43)", x.longest(43), 257);
        due("distance(1, 258)", x.distance(1, 258), 1);
        due("distance(1, 259)", x.distance(1, 259), -1);
        x.parse(0);
        dueSteps(x, "0 1 0 0", "1 258 1 1", "259 41 1 1");
        x = with(1, same('q', 300));
        due("longest(1)", x.longest(1), 299);
        x = with(2, same('q', 300));
        due("longest(1)", x.longest(1), 273);
        // An AGAIN has a LENGTH too, and so none above GREATEST.
        x.parse(0);
        dueSteps(x, "0 1 0 0", "1 273 1 2", "274 26 1 2");
    }

    private static void steps() {
        part = "promise 7";
        BestParses x = with(0, "abcabc");
        due("step(0, 0) without", x.step(0, 0), -1);
        x.parse(0);
        due("step(3, 0)", x.step(3, 0), 3);
        due("step(3, 1)", x.step(3, 1), 3);
        due("step(3, 2)", x.step(3, 2), 3);
        due("step(3, 3)", x.step(3, 3), 1);
        due("step(3, 4)", x.step(3, 4), -1);
        due("step(3, -1)", x.step(3, -1), -1);
        due("step(4, 0)", x.step(4, 0), -1);
        due("step(-1, 0)", x.step(-1, 0), -1);
        due("step(MAX, MAX)", x.step(Integer.MAX_VALUE, Integer.MAX_VALUE), -1);
        due("step(MIN, 0)", x.step(Integer.MIN_VALUE, 0), -1);
    }

    private static void sumAndAgain() {
        part = "promises 8 and 9";
        BestParses x = with(0, "abcabcz");
        due("sum()", x.sum(), -1);
        due("again()", x.again(), -1);
        x.parse(3);
        long sum = 4 * 512 + 640;
        due("sum()", x.sum(), sum);
        due("again()", x.again(), sum);
        x.cost(0, 'a', 100);
        x.cost(2, 2, 1000);
        due("sum() as it was", x.sum(), sum);
        due("again()", x.again(), sum - 412 + 680);
        due("many(1)", x.many(1), 5);
        // EXTRA bits: 20 octets by 10 are slot 12 (x is 17) with 2 bits, and slot 6 (x is 9) with 2.
        x = with(0, "0123456789" + "0123456789" + "0123456789");
        x.parse(0);
        dueSteps(x, literals(10, "10 20 10 1"));
        due("sum()", x.sum(), 10 * 512 + 320 + 2 * 64 + 320 + 2 * 64);
        x.cost(1, 12, 1);
        due("again() slot 12", x.again(), 10 * 512 + 1 + 2 * 64 + 320 + 2 * 64);
        x.cost(2, 6, 1);
        due("again() slot 6", x.again(), 10 * 512 + 1 + 2 * 64 + 1 + 2 * 64);
    }

    private static void leastAndDropped() {
        part = "promise 10";
        // Place 4 has two states: behind the copy by 2, and behind literals.
        BestParses x = with(2, "ababc");
        due("least() without", x.least(), false);
        x.parse(3);
        due("least()", x.least(), true);
        due("many(4)", x.many(4), 0);
        x.keep(1);
        x.parse(3);
        due("least() with one kept", x.least(), false);
        due("many(4)", x.many(4), 1);
        x.parse(0);
        due("least() of greedy", x.least(), false);
        due("many(4) is the latest BEST's", x.many(4), 1);
        x.keep(2);
        due("many(4) is the latest BEST's", x.many(4), 1);
        x.parse(3);
        due("least() with two kept", x.least(), true);
        due("many(4)", x.many(4), 0);
        // The end is no place: two states there, and none dropped.
        x = with(2, "abab");
        x.keep(1);
        x.parse(3);
        due("least() at the end", x.least(), true);
        due("many(4)", x.many(4), 0);
    }

    private static void told() {
        part = "promise 11";
        String text = "aaaaabcabcabcaaaxyzabcabc";
        for (int form = 0; form < 3; form++) {
            BestParses x = with(form, text);
            due("told(0)", x.told(0), -1);
            for (int how = 0; how < 4; how++) {
                x.parse(how);
                for (int i = 0; i < text.length(); i++) {
                    due("told(" + i + ")", x.told(i), text.charAt(i));
                }
                due("told(-1)", x.told(-1), -1);
                due("told(size)", x.told(text.length()), -1);
                due("told(MAX)", x.told(Integer.MAX_VALUE), -1);
            }
        }
    }

    private static void rounds() {
        part = "promise 12";
        due("rounds(1) of nothing", new BestParses(0).rounds(1), -1);
        due("rounds(1) in form 1", with(1, "a").rounds(1), -1);
        BestParses x = with(0, "a");
        due("rounds(0)", x.rounds(0), -1);
        due("rounds(9)", x.rounds(9), -1);
        due("sum() without", x.sum(), -1);
        // LOG(257) is 512, LOG(2) is 64, LOG(32) is 320, LOG(20) is 272, LOG(8) is 192.
        due("rounds(1)", x.rounds(1), 448);
        due("sum()", x.sum(), 512);
        due("again()", x.again(), 448);
        due("least()", x.least(), true);
        due("many(1)", x.many(1), 1);
        due("price(0, a)", x.price(0, 'a'), 448);
        due("price(0, b)", x.price(0, 'b'), 512);
        due("price(1, 0)", x.price(1, 0), 320);
        due("price(2, 0)", x.price(2, 0), 272);
        due("rounds(8)", x.rounds(8), 448);
        due("sum()", x.sum(), 448);
        x = with(2, "a");
        due("rounds(1)", x.rounds(1), 448 + 128);
        due("price(3, 0)", x.price(3, 0), 128);
        due("price(3, 6)", x.price(3, 6), 192);
        // A copy by 3 of three octets: slots 0 and 2. LOG(33) is 322, LOG(21) is 276, LOG(259) is 512.
        x = with(0, "abcabc");
        due("rounds(1)", x.rounds(1), 3 * (512 - 64) + 322 - 64 + 276 - 64);
        due("price(1, 0)", x.price(1, 0), 322 - 64);
        due("price(1, 1)", x.price(1, 1), 322);
        due("price(2, 2)", x.price(2, 2), 276 - 64);
        due("price(2, 3)", x.price(2, 3), 276);
    }

    /** Rounds in one call are those in many, and what is kept is the first with the least R. */
    private static void roundsOneByOne() {
        part = "promise 12, one by one";
        String text = "abracadabra, abracadabra: cadabra abra, brac, aaaabbbbabab dabra cada bra";
        for (int form = 0; form < 3; form += 2) {
            for (int n = 1; n <= 8; n++) {
                BestParses whole = with(form, text);
                BestParses single = with(form, text);
                long least = Long.MAX_VALUE;
                long sumThen = 0;
                int priceThen = 0;
                for (int i = 0; i < n; i++) {
                    long r = single.rounds(1);
                    due("again() is R", single.again(), r);
                    if (r < least) {
                        least = r;
                        sumThen = single.sum();
                        priceThen = single.price(0, 'a');
                    }
                }
                due("rounds(" + n + ")", whole.rounds(n), least);
                due("again()", whole.again(), least);
                due("sum()", whole.sum(), sumThen);
                due("price(0, a)", whole.price(0, 'a'), priceThen);
                due("many(4)", whole.many(4), single.many(4));
            }
        }
    }

    private static void copies() {
        part = "promises 13 and 14";
        BestParses x = with(0, "abcdabceabcd");
        due("longest(-1)", x.longest(-1), -1);
        due("longest(12)", x.longest(12), -1);
        due("longest(0)", x.longest(0), 0);
        due("longest(4)", x.longest(4), 3);
        due("longest(5)", x.longest(5), 0);
        due("longest(8)", x.longest(8), 4);
        due("longest(9)", x.longest(9), 3);
        due("longest(10)", x.longest(10), 0);
        due("distance(8, 2)", x.distance(8, 2), -1);
        due("distance(8, 3)", x.distance(8, 3), 4);
        due("distance(8, 4)", x.distance(8, 4), 8);
        due("distance(8, 5)", x.distance(8, 5), -1);
        due("distance(4, 3)", x.distance(4, 3), 4);
        due("distance(4, 4)", x.distance(4, 4), -1);
        due("distance(-1, 3)", x.distance(-1, 3), -1);
        due("distance(12, 3)", x.distance(12, 3), -1);
        due("distance(8, MIN)", x.distance(8, Integer.MIN_VALUE), -1);
        due("distance(MAX, MAX)", x.distance(Integer.MAX_VALUE, Integer.MAX_VALUE), -1);
        add(x, "abcd");
        due("longest(8) of the grown text", x.longest(8), 7);
        due("longest(12)", x.longest(12), 4);
        due("distance(12, 4)", x.distance(12, 4), 4);
        x.clear();
        add(x, "dabcabc");
        due("longest(4) behind clear()", x.longest(4), 3);
        due("longest(1) behind clear()", x.longest(1), 0);
        x = with(2, "abcdabceabcd");
        due("distance(8, 2)", x.distance(8, 2), 4);
        due("distance(8, 1)", x.distance(8, 1), -1);
        x = with(1, "abcdabceabcd");
        due("longest(4)", x.longest(4), 0);
        due("distance(4, 3)", x.distance(4, 3), -1);
        due("distance(8, 4)", x.distance(8, 4), 8);
        // Into themselves: seven octets by 2.
        x = with(0, "ababababa");
        due("longest(2)", x.longest(2), 7);
        due("distance(2, 7)", x.distance(2, 7), 2);
        due("distance(4, 5)", x.distance(4, 5), 2);
    }

    private static void cuts() {
        part = "promise 15";
        BestParses x = new BestParses(1);
        due("cut(0) of nothing", x.cut(0), -1);
        add(x, same('c', 20));
        due("cut(0)", x.cut(0), -1);
        due("cut(20)", x.cut(20), -1);
        due("cut(-1)", x.cut(-1), -1);
        due("cut(MAX)", x.cut(Integer.MAX_VALUE), -1);
        due("cut(19)", x.cut(19), 1);
        due("cut(19)", x.cut(19), -1);
        due("cut(1)", x.cut(1), 2);
        due("cut(1)", x.cut(1), -1);
        for (int i = 3; i <= 12; i++) {
            due("cut(" + i + ")", x.cut(i), i);
        }
        due("cut(15)", x.cut(15), -1);
        due("many(2)", x.many(2), 12);
        add(x, "d");
        due("many(2) of the grown text", x.many(2), 12);
    }

    private static void split() {
        part = "promises 16 and 17";
        due("split(0) of nothing", new BestParses(0).split(0), -1);
        BestParses x = with(0, "aabb");
        due("split(-1)", x.split(-1), -1);
        due("split(100001)", x.split(100001), -1);
        due("split(7)", x.split(7), 7 + 4 * 64);
        due("taken(0)", x.taken(0), -1);
        x.cut(2);
        due("taken(0) before split()", x.taken(0), -1);
        due("split(0)", x.split(0), 0);
        due("taken(0)", x.taken(0), 2);
        due("taken(1)", x.taken(1), -1);
        due("taken(-1)", x.taken(-1), -1);
        due("many(3)", x.many(3), 1);
        due("split(255)", x.split(255), 510);
        due("taken(0)", x.taken(0), 2);
        due("split(100001)", x.split(100001), -1);
        due("taken(0) behind a refusal", x.taken(0), 2);
        x.octets(1, 'c');
        x.cut(1);
        due("taken(0) of the latest split()", x.taken(0), 2);
        // "aabb" and "c" in one: LOG(5) is 144.
        due("split(100000)", x.split(100000), 100000 + 4 * (144 - 64) + 144);
        due("taken(0)", x.taken(0), -1);
        due("many(3)", x.many(3), 0);
        // Cuts in another order than their places: a a | b b | c c.
        x = with(2, "aabbcc");
        x.cut(4);
        x.cut(2);
        x.cut(3);
        due("split(1)", x.split(1), 3);
        due("many(3)", x.many(3), 2);
        due("taken(0)", x.taken(0), 2);
        due("taken(1)", x.taken(1), 4);
        due("taken(2)", x.taken(2), -1);
    }

    private static void splitOfLikeCosts() {
        part = "promise 16, like costs";
        // One block costs 256 + 256, two cost 256 each: the fewest.
        BestParses x = with(0, "aabb");
        x.cut(2);
        due("split(256)", x.split(256), 512);
        due("many(3)", x.many(3), 0);
        x = with(0, same('a', 20));
        x.cut(5);
        x.cut(10);
        due("split(0)", x.split(0), 0);
        due("many(3)", x.many(3), 0);
        // Whole 40 + 256, at 1 or at 3 80 + 160, at both 120 + 128: at the first one.
        x = with(0, "abab");
        x.cut(3);
        x.cut(1);
        due("split(40)", x.split(40), 240);
        due("many(3)", x.many(3), 1);
        due("taken(0)", x.taken(0), 1);
        due("split(0)", x.split(0), 128);
        due("many(3)", x.many(3), 2);
    }

    private static void many() {
        part = "promise 18";
        BestParses x = with(2, "ababcababc");
        x.parse(0);
        x.cut(5);
        x.cut(2);
        x.split(0);
        x.keep(3);
        due("many(-1)", x.many(-1), -1);
        due("many(0)", x.many(0), 10);
        due("many(1)", x.many(1), 5);
        due("many(2)", x.many(2), 2);
        due("many(4)", x.many(4), 0);
        due("many(5)", x.many(5), 3);
        due("many(6)", x.many(6), 2);
        due("many(7)", x.many(7), -1);
        due("many(MIN)", x.many(Integer.MIN_VALUE), -1);
        due("many(MAX)", x.many(Integer.MAX_VALUE), -1);
        x.keep(1);
        x.rounds(1);
        due("many(4) of rounds()", x.many(4) > 0, true);
    }

    private static void clear() {
        part = "promise 19";
        BestParses x = with(2, "ababcababc");
        x.keep(1);
        x.cost(0, 'a', 5);
        x.cost(3, 6, 5);
        x.parse(3);
        x.cut(5);
        x.cut(2);
        x.split(0);
        x.clear();
        int[] want = {0, 0, 0, 0, 0, 8, 2};
        for (int what = 0; what < want.length; what++) {
            due("many(" + what + ")", x.many(what), want[what]);
        }
        due("sum()", x.sum(), -1);
        due("least()", x.least(), false);
        due("told(0)", x.told(0), -1);
        due("taken(0)", x.taken(0), -1);
        due("longest(0)", x.longest(0), -1);
        due("price(0, a)", x.price(0, 'a'), 512);
        due("price(3, 6)", x.price(3, 6), 64);
        due("split(0)", x.split(0), -1);
        add(x, "xyxy");
        due("parse(0)", x.parse(0), 3);
        due("told(3)", x.told(3), 'y');
        due("cut(3)", x.cut(3), 1);
    }

    private static void trier() {
        part = "promise 20";
        BestParses x = new BestParses(1);
        due("throws of trier(0)", throwsOf(x, 0), true);
        x.octets(3, 0xff0080L);
        due("trier(0)", x.trier(0), 128);
        due("trier(1)", x.trier(1), 0);
        due("trier(2)", x.trier(2), 255);
        due("throws of trier(3)", throwsOf(x, 3), true);
        due("throws of trier(-1)", throwsOf(x, -1), true);
        due("throws of trier(MIN)", throwsOf(x, Integer.MIN_VALUE), true);
        due("throws of trier(MAX)", throwsOf(x, Integer.MAX_VALUE), true);
        due("throws of trier(2)", throwsOf(x, 2), false);
        x.clear();
        due("throws of trier(0) behind clear()", throwsOf(x, 0), true);
    }

    private static void greatestCosts() {
        part = "greatest costs";
        BestParses x = new BestParses(2);
        int[] symbols = {2, 32, 20, 7};
        for (int kind = 0; kind < 4; kind++) {
            for (int symbol = 0; symbol < symbols[kind]; symbol++) {
                x.cost(kind, symbol, 10000);
            }
        }
        for (int i = 0; i < 300; i++) {
            x.octets(1, i & 1);
        }
        x.cost(1, 28, 1);
        x.keep(40);
        x.parse(3);
        // Two literals, then by 2: 273 octets (x is 271: slot 28, 6 EXTRA bits) and 25 by AGAIN 0 (x is
        // 23: slot 13, 2 EXTRA bits).
        due("sum()", x.sum(), 2 * 20000 + 10000 + 1 + 6 * 64 + 10000 + 10000 + 10000 + 2 * 64);
        x = new BestParses(2);
        x.cost(3, 0, 10000);
        for (int i = 0; i < 256; i++) {
            x.cost(0, i, 10000);
        }
        add(x, different(256));
        due("parse(3)", x.parse(3), 256);
        due("sum()", x.sum(), 256 * 20000L);
    }
}
