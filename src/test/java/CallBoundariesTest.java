import java.util.ArrayList;
import java.util.List;
import java.util.function.IntUnaryOperator;

/** Each sentence of promises 1 to 20 that names a boundary case, by a test of its own. */
public final class CallBoundariesTest extends Checks {
    private static final int MIN = Integer.MIN_VALUE;
    private static final int MAX = Integer.MAX_VALUE;
    private static final int[] SYMBOLS = {256, 32, 20, 7};
    private static final String SOME = "abracadabra, abracadabra: cadabra abra, brac, aaaabbbbabab dabra";
    // Of some each round up to the sixth, or to the ninth, costs less than the one before it; of others
    // a later one costs more again.
    private static final String[] ROUNDS_OF_FORM_0 = {SOME,
        "dacecccdacccacccacacacacacccacccdacccaacedacecceccecceccacccacccaccddcceccdacecccccccdcccaacecccacccdac"
            + "ccddccecdaceccddcacaceccaccccccaaceddccceacecccceccccacacacacecccccccdaccecc",
        "dgegaggcbdgegaggcbfffffffceeffffceffffegaggcfeeeffffegagcffffffaaggcbfffegaggfeaggcbgbffffffeffaagffffc"
            + "effgaggegaggfefffffffceefgcbgcbfgcegagcfffgcbdgefffffcacbdgefgefffffgcb"};
    private static final String[] ROUNDS_OF_FORM_2 = {SOME, "dbbbddbbbddbbbbbddbaabbddbbbabbddb",
        "acffeffffffffffbffffbfffffbffffffffffeffefffffffeeeeeeeee",
        "acbabbbbbbcacbbbcacbbbabbbbbabbcbaacbabbcbcbabbcbccbbbcacbacbcbcbabbbbbaabbcbccaabbcbcbbabbcbcbabbcbccc"
            + "bcacbbbbaababbbbbacbabbbcbaacbabbbbbacbabbbbcbcaabbbbbacccccccbbcbcbacaccbabbbcbbbacbcbcbaab"};

    public static void main(String[] args) {
        sentence("1: of another number the nearest one", CallBoundariesTest::nearestForm);
        sentence("1: an empty TEXT; no PARSE", CallBoundariesTest::newObject);
        sentence("2: the n lowest octets, the lowest first", CallBoundariesTest::lowestOctets);
        sentence("2: there is no PARSE then", CallBoundariesTest::octetsEndTheParse);
        sentence("2: NONE when n is not 1 to 8", CallBoundariesTest::octetsTooManyAtOnce);
        sentence("2: or there would be more than 300", CallBoundariesTest::octetsBeyondTheFull);
        sentence("3: NONE when there is no such class", CallBoundariesTest::costOfNoClass);
        sentence("3: no such symbol", CallBoundariesTest::costOfNoSymbol);
        sentence("3: v is not 1 to 10000", CallBoundariesTest::costNotInBounds);
        sentence("3: FORM is 1", CallBoundariesTest::costInOctetForm);
        sentence("3: of FORM 0 there are no KINDS", CallBoundariesTest::costOfKindsInForm0);
        sentence("3: what it was", CallBoundariesTest::costBefore);
        sentence("4: NONE as cost()", CallBoundariesTest::priceRefused);
        sentence("5: NONE when n is not 1 to 40", CallBoundariesTest::keepNotInBounds);
        sentence("5: or FORM is not 2", CallBoundariesTest::keepInOtherForms);
        sentence("6: NONE for another one", CallBoundariesTest::parseOfAnother);
        sentence("6: of an empty TEXT", CallBoundariesTest::parseOfNothing);
        sentence("7: NONE: there is none such", CallBoundariesTest::noSuchStep);
        sentence("7: 1 of a LITERAL and SHORT, 0 of a LITERAL", CallBoundariesTest::stepsOfOneOctet);
        sentence("8: by the COSTS by which it was looked for", CallBoundariesTest::sumStays);
        sentence("8: NONE without", CallBoundariesTest::sumWithout);
        sentence("9: by the COSTS as they are now", CallBoundariesTest::againNow);
        sentence("9: NONE without", CallBoundariesTest::againWithout);
        sentence("10: whether THE PARSE is BEST's, and LEAST", CallBoundariesTest::leastOfOthers);
        sentence("11: NONE without PARSE, or such an octet", CallBoundariesTest::toldNothing);
        sentence("12: NONE when n is not 1 to 8", CallBoundariesTest::roundsNotInBounds);
        sentence("12: FORM is 1", CallBoundariesTest::roundsInOctetForm);
        sentence("12: or THE TEXT is empty", CallBoundariesTest::roundsOfNothing);
        sentence("12: of several the first", CallBoundariesTest::firstOfLikeRounds);
        sentence("12: those with the least R", CallBoundariesTest::leastRound);
        sentence("13: 0 when there is none", CallBoundariesTest::longestOfNone);
        sentence("13: NONE when there is no such place", CallBoundariesTest::longestAtNoPlace);
        sentence("14: NONE when there is none such", CallBoundariesTest::distanceOfNone);
        sentence("15: above 0 and below the size", CallBoundariesTest::cutsInBounds);
        sentence("15: NONE when it is there already", CallBoundariesTest::cutTwice);
        sentence("15: or there are 12", CallBoundariesTest::cutsFull);
        sentence("16: NONE when head is not 0 to 100000", CallBoundariesTest::splitNotInBounds);
        sentence("16: or THE TEXT is empty", CallBoundariesTest::splitOfNothing);
        sentence("16: of one octet, and without CUTS", CallBoundariesTest::splitOfLittle);
        sentence("16: at all of the CUTS", CallBoundariesTest::splitAtAll);
        sentence("16: that with fewest BLOCKS", CallBoundariesTest::splitFewest);
        sentence("16: whose first CUT is least, then its second", CallBoundariesTest::splitFirst);
        sentence("16: CUTS stay when THE TEXT grows", CallBoundariesTest::cutsStay);
        sentence("17: that the latest split() took", CallBoundariesTest::takenByTheLatest);
        sentence("17: NONE when there is none such", CallBoundariesTest::takenNone);
        sentence("18: STEPS, 0 without", CallBoundariesTest::manySteps);
        sentence("18: in the latest BEST, also of rounds()", CallBoundariesTest::manyDropped);
        sentence("18: NONE: another what", CallBoundariesTest::manyOther);
        sentence("19: as at first", CallBoundariesTest::clearedIsNew);
        sentence("19: of an empty one", CallBoundariesTest::clearedTwice);
        sentence("20: octet i, 0 to 255", CallBoundariesTest::trierOfAll);
        sentence("20: there is none", CallBoundariesTest::trierThrows);
        sentence("a refused call changes nothing", CallBoundariesTest::refusedChangesNothing);
        sentence("an object is used for at most 512 calls", CallBoundariesTest::manyCalls);
        finish();
    }

    private static void nearestForm() {
        int[][] forms = {{MIN, 0}, {-2, 0}, {-1, 0}, {0, 0}, {1, 1}, {2, 2}, {3, 2}, {4, 2}, {MAX, 2}};
        for (int[] f : forms) {
            due("form " + f[0], new BestParses(f[0]).many(6), f[1]);
        }
        // By what the forms do, too: LEAST is 3, 4, 2.
        due("longest in form -1", with(-1, "abcabc").longest(3), 3);
        due("longest in form 3", with(3, "abab").longest(2), 2);
    }

    private static void newObject() {
        for (int form = 0; form < 3; form++) {
            BestParses x = new BestParses(form);
            int[] many = {0, 0, 0, 0, 0, 8, form};
            for (int what = 0; what < many.length; what++) {
                due("many(" + what + ")", x.many(what), many[what]);
            }
            dueNoParse(x);
            due("longest(0)", x.longest(0), -1);
            due("trier(0) throws", throwsOf(x, 0), true);
            due("taken(0)", x.taken(0), -1);
        }
    }

    private static void dueNoParse(BestParses x) {
        due("many(1)", x.many(1), 0);
        due("sum()", x.sum(), -1);
        due("again()", x.again(), -1);
        due("least()", x.least(), false);
        due("told(0)", x.told(0), -1);
        due("step(0, 0)", x.step(0, 0), -1);
    }

    private static void lowestOctets() {
        long[] values = {0, -1, Long.MIN_VALUE, Long.MAX_VALUE, 0x8070605040302010L, 0xff00ff00ff00ff00L};
        for (long value : values) {
            for (int n = 1; n <= 8; n++) {
                BestParses x = new BestParses(0);
                due("octets(" + n + ", " + value + ")", x.octets(n, value), n);
                long rest = value;
                for (int i = 0; i < n; i++) {
                    due("trier(" + i + ")", x.trier(i), rest & 255);
                    rest >>>= 8;
                }
                due("trier(" + n + ") throws", throwsOf(x, n), true);
            }
        }
    }

    private static void octetsEndTheParse() {
        for (int form = 0; form < 3; form++) {
            for (int how = 0; how < 4; how++) {
                BestParses x = with(form, "ababab");
                x.parse(how);
                due("sum() of a parse", x.sum() > 0, true);
                x.octets(1, 'a');
                dueNoParse(x);
            }
        }
        BestParses x = with(2, "ababab");
        x.rounds(1);
        x.octets(1, 'a');
        dueNoParse(x);
    }

    private static void octetsTooManyAtOnce() {
        for (int n : new int[] {MIN, MIN + 1, -8, -1, 0, 9, 10, 16, 300, MAX - 1, MAX}) {
            BestParses x = with(0, "abc");
            due("octets(" + n + ", 5)", x.octets(n, 5), -1);
            due("many(0)", x.many(0), 3);
        }
        for (int n = 1; n <= 8; n++) {
            due("octets(" + n + ", 5)", with(0, "abc").octets(n, 5), 3 + n);
        }
    }

    private static void octetsBeyondTheFull() {
        BestParses x = new BestParses(1);
        for (int i = 1; i <= 37; i++) {
            due("octets(8, i)", x.octets(8, i), 8 * i);
        }
        x.parse(3);
        long sum = x.sum();
        for (int n = 8; n >= 5; n--) {
            due("octets(" + n + ", 0) of 296", x.octets(n, 0), -1);
        }
        due("sum() as before", x.sum(), sum);
        due("octets(4, 0) of 296", x.octets(4, 0), 300);
        dueNoParse(x);
        for (int n = 1; n <= 8; n++) {
            due("octets(" + n + ", 0) of 300", x.octets(n, 0), -1);
        }
        due("octets(MAX, 0) of 300", x.octets(MAX, 0), -1);
        due("many(0)", x.many(0), 300);
    }

    private static void costOfNoClass() {
        for (int form = 0; form < 3; form++) {
            BestParses x = new BestParses(form);
            for (int kind : new int[] {MIN, -2, -1, 4, 5, MAX}) {
                for (int symbol : new int[] {MIN, -1, 0, 6, MAX}) {
                    due("cost(" + kind + ", " + symbol + ", 5)", x.cost(kind, symbol, 5), -1);
                    due("price(" + kind + ", " + symbol + ")", x.price(kind, symbol), -1);
                }
            }
        }
    }

    private static void costOfNoSymbol() {
        for (int form = 0; form < 3; form += 2) {
            BestParses x = new BestParses(form);
            String before = prices(x);
            for (int kind = 0; kind < 4; kind++) {
                for (int symbol : new int[] {MIN, -1, SYMBOLS[kind], SYMBOLS[kind] + 1, MAX}) {
                    due("cost(" + kind + ", " + symbol + ", 5)", x.cost(kind, symbol, 5), -1);
                }
            }
            due("prices", prices(x), before);
        }
    }

    private static void costNotInBounds() {
        BestParses x = new BestParses(2);
        int[] first = {512, 320, 320, 64};
        for (int kind = 0; kind < 4; kind++) {
            for (int symbol : new int[] {0, SYMBOLS[kind] - 1}) {
                for (int v : new int[] {MIN, -1, 0, 10001, 10002, MAX}) {
                    due("cost(" + kind + ", " + symbol + ", " + v + ")", x.cost(kind, symbol, v), -1);
                    due("price", x.price(kind, symbol), first[kind]);
                }
                due("cost of 1", x.cost(kind, symbol, 1), first[kind]);
                due("price", x.price(kind, symbol), 1);
                due("cost of 10000", x.cost(kind, symbol, 10000), 1);
                due("price", x.price(kind, symbol), 10000);
            }
        }
    }

    private static void costInOctetForm() {
        BestParses x = with(1, "abcdabcd");
        x.parse(3);
        for (int kind = 0; kind < 4; kind++) {
            for (int symbol : new int[] {0, SYMBOLS[kind] - 1}) {
                due("cost(" + kind + ", " + symbol + ", 5)", x.cost(kind, symbol, 5), -1);
                due("price(" + kind + ", " + symbol + ")", x.price(kind, symbol), -1);
            }
        }
        due("again()", x.again(), 512 * (4 + 3 + 1));
    }

    private static void costOfKindsInForm0() {
        BestParses x = with(0, "abcabc");
        x.parse(0);
        for (int symbol = -1; symbol <= 7; symbol++) {
            due("cost(3, " + symbol + ", 5)", x.cost(3, symbol, 5), -1);
            due("price(3, " + symbol + ")", x.price(3, symbol), -1);
        }
        due("again()", x.again(), 3 * 512 + 640);
    }

    private static void costBefore() {
        BestParses x = new BestParses(2);
        int[] first = {512, 320, 320, 64};
        for (int kind = 0; kind < 4; kind++) {
            for (int symbol = 0; symbol < SYMBOLS[kind]; symbol++) {
                due("cost", x.cost(kind, symbol, 1 + kind * 1000 + symbol), first[kind]);
            }
        }
        for (int kind = 0; kind < 4; kind++) {
            for (int symbol = 0; symbol < SYMBOLS[kind]; symbol++) {
                due("price", x.price(kind, symbol), 1 + kind * 1000 + symbol);
            }
        }
        due("cost as it is", x.cost(3, 6, 3007), 3007);
        due("cost as it is", x.cost(3, 6, 3007), 3007);
    }

    private static void priceRefused() {
        for (int form = 0; form < 3; form++) {
            BestParses x = new BestParses(form);
            for (int kind = -1; kind <= 4; kind++) {
                for (int symbol = -1; symbol <= 256; symbol++) {
                    boolean there = kind >= 0 && kind < (form == 0 ? 3 : form == 1 ? 0 : 4)
                            && symbol >= 0 && symbol < SYMBOLS[kind];
                    due("price(" + kind + ", " + symbol + ")", x.price(kind, symbol) != -1, there);
                }
            }
        }
    }

    private static void keepNotInBounds() {
        BestParses x = new BestParses(2);
        for (int n : new int[] {MIN, -1, 0, 41, 42, MAX}) {
            due("keep(" + n + ")", x.keep(n), -1);
            due("many(5)", x.many(5), 8);
        }
        int before = 8;
        for (int n = 1; n <= 40; n++) {
            due("keep(" + n + ")", x.keep(n), before);
            due("many(5)", x.many(5), n);
            before = n;
        }
        due("keep(41)", x.keep(41), -1);
        due("many(5)", x.many(5), 40);
    }

    private static void keepInOtherForms() {
        for (int form = 0; form < 2; form++) {
            BestParses x = new BestParses(form);
            for (int n : new int[] {0, 1, 8, 40, 41}) {
                due("keep(" + n + ")", x.keep(n), -1);
                due("many(5)", x.many(5), 8);
            }
        }
    }

    private static void parseOfAnother() {
        for (int form = 0; form < 3; form++) {
            BestParses x = with(form, "abcdabcd");
            for (int how : new int[] {MIN, -1, 4, 5, MAX}) {
                due("parse(" + how + ")", x.parse(how), -1);
                dueNoParse(x);
            }
            due("parse(3)", x.parse(3), 5);
            String before = steps(x);
            for (int how : new int[] {MIN, -1, 4, 5, MAX}) {
                due("parse(" + how + ")", x.parse(how), -1);
                due("steps", steps(x), before);
                due("least()", x.least(), true);
            }
        }
    }

    private static void parseOfNothing() {
        for (int form = 0; form < 3; form++) {
            for (int how = 0; how < 4; how++) {
                BestParses x = new BestParses(form);
                due("parse(" + how + ")", x.parse(how), 0);
                due("many(1)", x.many(1), 0);
                due("sum()", x.sum(), form == 1 ? 512 : 0);
                due("again()", x.again(), form == 1 ? 512 : 0);
                due("least()", x.least(), how == 3);
                due("step(0, 0)", x.step(0, 0), -1);
                due("told(0)", x.told(0), -1);
                due("many(4)", x.many(4), 0);
            }
        }
    }

    private static void noSuchStep() {
        for (int form = 0; form < 3; form++) {
            BestParses x = with(form, "abcdabcd");
            due("step(0, 0) without", x.step(0, 0), -1);
            x.parse(0);
            for (int what = 0; what <= 3; what++) {
                for (int i : new int[] {MIN, -1, 5, 6, 7, MAX}) {
                    due("step(" + i + ", " + what + ")", x.step(i, what), -1);
                }
            }
            for (int i = 0; i < 5; i++) {
                for (int what : new int[] {MIN, -1, 4, 5, MAX}) {
                    due("step(" + i + ", " + what + ")", x.step(i, what), -1);
                }
            }
            due("step(4, 0)", x.step(4, 0), 4);
            due("step(MAX, MAX)", x.step(MAX, MAX), -1);
            due("step(MIN, MIN)", x.step(MIN, MIN), -1);
        }
        // A shorter parse than the one before it.
        BestParses x = with(0, "abcxbcdeyabcde");
        x.parse(0);
        due("step(11, 0)", x.step(11, 0), 13);
        x.parse(1);
        due("step(10, 0)", x.step(10, 0), 10);
        due("step(11, 0)", x.step(11, 0), -1);
    }

    private static void stepsOfOneOctet() {
        BestParses x = with(2, "aa");
        x.parse(3);
        due("step 0, a literal", stepOf(x, 0), "0 1 0 0");
        due("step 1, a short", stepOf(x, 1), "1 1 1 6");
        // SHORT by 3, behind a copy by 3 and a literal.
        x = with(2, "abcabc-bd");
        x.cost(3, 1, 1);
        x.parse(3);
        dueSteps(x, literals(3, "3 3 3 1", "6 1 0 0", "7 1 3 6", "8 1 0 0"));
    }

    private static void sumStays() {
        BestParses x = with(0, "abcabcz");
        x.parse(3);
        long sum = 4 * 512 + 640;
        x.cost(0, 'a', 1);
        due("sum()", x.sum(), sum);
        x.cost(1, 0, 10000);
        due("sum()", x.sum(), sum);
        x.cost(2, 2, 10000);
        due("sum()", x.sum(), sum);
        x.parse(4);
        due("sum() behind a refusal", x.sum(), sum);
        x.parse(0);
        due("sum() of a new parse", x.sum(), 3 * 512 + 1 + 20000);
        x = with(1, "a");
        x.parse(0);
        due("sum() with the end's", x.sum(), 1024);
    }

    private static void sumWithout() {
        for (int form = 0; form < 3; form++) {
            BestParses x = new BestParses(form);
            due("sum()", x.sum(), -1);
            x.octets(1, 1);
            due("sum()", x.sum(), -1);
            x.parse(0);
            due("sum()", x.sum() > 0, true);
            x.octets(1, 1);
            due("sum() behind octets()", x.sum(), -1);
            x.parse(3);
            x.clear();
            due("sum() behind clear()", x.sum(), -1);
        }
    }

    private static void againNow() {
        BestParses x = with(2, "abab");
        x.parse(0);
        due("again()", x.again(), 2 * 576 + 64 + 320 + 320);
        x.cost(0, 'a', 10000);
        due("again()", x.again(), 10064 + 576 + 64 + 320 + 320);
        x.cost(3, 0, 1);
        due("again()", x.again(), 10001 + 513 + 64 + 320 + 320);
        x.cost(3, 1, 2);
        due("again()", x.again(), 10001 + 513 + 2 + 320 + 320);
        x.cost(1, 0, 3);
        due("again()", x.again(), 10001 + 513 + 2 + 3 + 320);
        x.cost(2, 1, 4);
        due("again()", x.again(), 10001 + 513 + 2 + 3 + 4);
        x.cost(2, 1, 0);
        due("again() behind a refusal", x.again(), 10001 + 513 + 2 + 3 + 4);
    }

    private static void againWithout() {
        for (int form = 0; form < 3; form++) {
            BestParses x = new BestParses(form);
            due("again()", x.again(), -1);
            x.octets(2, 1);
            due("again()", x.again(), -1);
            x.parse(1);
            x.octets(1, 1);
            due("again() behind octets()", x.again(), -1);
            x.parse(3);
            x.clear();
            due("again() behind clear()", x.again(), -1);
        }
    }

    private static void leastOfOthers() {
        for (int form = 0; form < 3; form++) {
            BestParses x = with(form, "abcdefg");
            due("least() without", x.least(), false);
            x.parse(3);
            due("least() of BEST", x.least(), true);
            for (int how = 0; how < 3; how++) {
                x.parse(how);
                due("least() of parse(" + how + ")", x.least(), false);
            }
            x.parse(3);
            x.octets(1, 1);
            due("least() behind octets()", x.least(), false);
        }
        // KEPT of now does not change what was dropped then.
        BestParses x = with(2, "ababc");
        x.keep(1);
        x.parse(3);
        x.keep(40);
        due("least() with one kept then", x.least(), false);
        x.parse(3);
        x.keep(1);
        due("least() with forty kept then", x.least(), true);
        due("least() of rounds()", x.rounds(1) > 0 && x.least(), false);
        x.keep(2);
        due("least() of rounds()", x.rounds(1) > 0 && x.least(), true);
    }

    private static void toldNothing() {
        for (int form = 0; form < 3; form++) {
            BestParses x = with(form, "abcdabcd");
            due("told(0) without", x.told(0), -1);
            for (int how = 0; how < 4; how++) {
                x.parse(how);
                for (int i : new int[] {MIN, -1, 8, 9, 299, 300, MAX}) {
                    due("told(" + i + ")", x.told(i), -1);
                }
                due("told(0)", x.told(0), 'a');
                due("told(7)", x.told(7), 'd');
            }
            x.octets(1, 'x');
            due("told(7) behind octets()", x.told(7), -1);
        }
        BestParses x = with(0, same('\u00ff', 300));
        x.parse(0);
        due("told(299)", x.told(299), 255);
        due("told(300)", x.told(300), -1);
    }

    private static void roundsNotInBounds() {
        for (int form = 0; form < 3; form += 2) {
            BestParses x = with(form, SOME);
            x.parse(1);
            String before = stateOf(x);
            for (int n : new int[] {MIN, -1, 0, 9, 10, MAX}) {
                due("rounds(" + n + ")", x.rounds(n), -1);
            }
            due("state", stateOf(x), before);
            for (int n = 1; n <= 8; n++) {
                due("rounds(" + n + ")", with(form, SOME).rounds(n) > 0, true);
            }
        }
    }

    private static void roundsInOctetForm() {
        BestParses x = with(1, SOME);
        x.parse(2);
        String before = stateOf(x);
        for (int n = 0; n <= 9; n++) {
            due("rounds(" + n + ")", x.rounds(n), -1);
        }
        due("state", stateOf(x), before);
    }

    private static void roundsOfNothing() {
        for (int form = 0; form < 3; form++) {
            BestParses x = new BestParses(form);
            String before = stateOf(x);
            for (int n = 0; n <= 9; n++) {
                due("rounds(" + n + ")", x.rounds(n), -1);
            }
            due("state", stateOf(x), before);
            x.octets(1, 7);
            x.clear();
            due("rounds(1) behind clear()", x.rounds(1), -1);
        }
    }

    private static void firstOfLikeRounds() {
        // Every round costs 448; the first was looked for by the costs at first.
        BestParses x = with(0, "a");
        due("rounds(8)", x.rounds(8), 448);
        due("sum()", x.sum(), 512);
        due("again()", x.again(), 448);
        x = with(2, "a");
        due("rounds(2)", x.rounds(2), 448 + 128);
        due("sum()", x.sum(), 576);
    }

    private static void leastRound() {
        // Rounds one by one tell all R; what one call of all of them leaves is told by the least one.
        for (int form = 0; form < 3; form += 2) {
            for (String text : form == 0 ? ROUNDS_OF_FORM_0 : ROUNDS_OF_FORM_2) {
                for (int n = 1; n <= 8; n++) {
                    BestParses single = with(form, text);
                    long least = Long.MAX_VALUE;
                    String then = "";
                    for (int i = 0; i < n; i++) {
                        long r = single.rounds(1);
                        if (r < least) {
                            least = r;
                            then = steps(single) + prices(single) + single.sum() + single.least();
                        }
                    }
                    BestParses x = with(form, text);
                    due("rounds(" + n + ")", x.rounds(n), least);
                    due("again()", x.again(), least);
                    due("parse and costs", steps(x) + prices(x) + x.sum() + x.least(), then);
                    due("many(4), of the last round", x.many(4), single.many(4));
                }
            }
        }
    }

    private static void longestOfNone() {
        for (int form = 0; form < 3; form++) {
            BestParses x = with(form, different(20));
            for (int place = 0; place < 20; place++) {
                due("longest(" + place + ")", x.longest(place), 0);
            }
            // The last place has one octet, which is less than LEAST.
            x = with(form, same('s', 20));
            due("longest(19)", x.longest(19), 0);
            due("longest(0)", x.longest(0), 0);
        }
    }

    private static void longestAtNoPlace() {
        for (int form = 0; form < 3; form++) {
            BestParses x = new BestParses(form);
            due("longest(0) of nothing", x.longest(0), -1);
            add(x, "abcdabcd");
            for (int place : new int[] {MIN, -1, 8, 9, 300, MAX}) {
                due("longest(" + place + ")", x.longest(place), -1);
            }
            due("longest(7)", x.longest(7), 0);
            due("longest(4)", x.longest(4), 4);
            x.clear();
            due("longest(4) behind clear()", x.longest(4), -1);
            // What the text was before does not shine through.
            add(x, "ab");
            due("longest(4) behind clear()", x.longest(4), -1);
            add(x, "efgh");
            due("longest(4) of another text", x.longest(4), 0);
        }
    }

    private static void distanceOfNone() {
        int[] least = {3, 4, 2};
        for (int form = 0; form < 3; form++) {
            BestParses x = with(form, "abcdefabcdef");
            for (int length = -1; length <= 13; length++) {
                boolean there = length >= least[form] && length <= 6;
                due("distance(6, " + length + ")", x.distance(6, length), there ? 6 : -1);
                due("distance(0, " + length + ")", x.distance(0, length), -1);
                due("distance(5, " + length + ")", x.distance(5, length), -1);
                due("distance(-1, " + length + ")", x.distance(-1, length), -1);
                due("distance(12, " + length + ")", x.distance(12, length), -1);
            }
            for (int far : new int[] {MIN, MIN + 1, MAX - 1, MAX}) {
                due("distance(6, " + far + ")", x.distance(6, far), -1);
                due("distance(" + far + ", 4)", x.distance(far, 4), -1);
                due("distance(" + far + ", " + far + ")", x.distance(far, far), -1);
            }
            due("distance of nothing", new BestParses(form).distance(0, 4), -1);
        }
    }

    private static void cutsInBounds() {
        BestParses x = new BestParses(0);
        for (int place : new int[] {MIN, -1, 0, 1, MAX}) {
            due("cut(" + place + ") of nothing", x.cut(place), -1);
        }
        x.octets(1, 'a');
        due("cut(0) of one octet", x.cut(0), -1);
        due("cut(1) of one octet", x.cut(1), -1);
        x.octets(1, 'b');
        for (int place : new int[] {MIN, -1, 0, 2, 3, MAX}) {
            due("cut(" + place + ") of two", x.cut(place), -1);
        }
        due("many(2)", x.many(2), 0);
        due("cut(1) of two", x.cut(1), 1);
        x = with(2, same('q', 300));
        due("cut(300)", x.cut(300), -1);
        due("cut(299)", x.cut(299), 1);
        due("cut(1)", x.cut(1), 2);
    }

    private static void cutTwice() {
        BestParses x = with(1, same('q', 30));
        int[] places = {15, 3, 29, 1, 16};
        for (int i = 0; i < places.length; i++) {
            due("cut(" + places[i] + ")", x.cut(places[i]), i + 1);
            for (int j = 0; j <= i; j++) {
                due("cut(" + places[j] + ") again", x.cut(places[j]), -1);
            }
            due("many(2)", x.many(2), i + 1);
        }
    }

    private static void cutsFull() {
        BestParses x = with(1, same('q', 30));
        for (int i = 1; i <= 12; i++) {
            due("cut(" + 2 * i + ")", x.cut(2 * i), i);
        }
        for (int place = 0; place <= 30; place++) {
            due("cut(" + place + ") of 12", x.cut(place), -1);
        }
        due("many(2)", x.many(2), 12);
        // There is room for all again, and none is there already.
        x.clear();
        add(x, same('q', 30));
        for (int i = 1; i <= 12; i++) {
            due("cut(" + 2 * i + ") behind clear()", x.cut(2 * i), i);
        }
        due("cut(1)", x.cut(1), -1);
    }

    private static void splitNotInBounds() {
        BestParses x = with(0, "aabb");
        x.cut(2);
        due("split(0)", x.split(0), 0);
        for (int head : new int[] {MIN, -100000, -1, 100001, 100002, MAX}) {
            due("split(" + head + ")", x.split(head), -1);
            due("taken(0)", x.taken(0), 2);
            due("many(3)", x.many(3), 1);
        }
        due("split(1)", x.split(1), 2);
        due("split(100000)", x.split(100000), 100256);
        due("many(3)", x.many(3), 0);
    }

    private static void splitOfNothing() {
        for (int form = 0; form < 3; form++) {
            BestParses x = new BestParses(form);
            for (int head : new int[] {-1, 0, 1, 100000, 100001}) {
                due("split(" + head + ")", x.split(head), -1);
            }
            add(x, "ab");
            x.cut(1);
            due("split(0)", x.split(0), 0);
            x.clear();
            due("split(0) behind clear()", x.split(0), -1);
        }
    }

    private static void splitOfLittle() {
        for (int head : new int[] {0, 1, 99999, 100000}) {
            BestParses x = with(1, "z");
            due("split(" + head + ") of one octet", x.split(head), head);
            due("many(3)", x.many(3), 0);
            due("taken(0)", x.taken(0), -1);
            x = with(1, "zy");
            due("split(" + head + ") of two octets", x.split(head), head + 128);
        }
    }

    private static void splitAtAll() {
        StringBuilder text = new StringBuilder();
        for (int i = 0; i < 13; i++) {
            text.append(same((char) ('a' + i), 2));
        }
        BestParses x = with(0, text.toString());
        for (int i = 12; i >= 1; i--) {
            x.cut(2 * i);
        }
        due("split(1)", x.split(1), 13);
        due("many(3)", x.many(3), 12);
        for (int k = 0; k < 12; k++) {
            due("taken(" + k + ")", x.taken(k), 2 * (k + 1));
        }
        due("taken(12)", x.taken(12), -1);
        // LOG(26) is 256 + 104 - 64.
        due("split(100000)", x.split(100000), 100000 + 26 * (296 - 64));
        due("many(3)", x.many(3), 0);
        due("many(2)", x.many(2), 12);
    }

    private static void splitFewest() {
        // One block costs 256 + 256, two cost 256 each.
        BestParses x = with(0, "aabb");
        x.cut(2);
        due("split(255)", x.split(255), 510);
        due("many(3)", x.many(3), 1);
        due("split(256)", x.split(256), 512);
        due("many(3)", x.many(3), 0);
        due("split(257)", x.split(257), 513);
        due("many(3)", x.many(3), 0);
        // Without a head, cuts through what is alike cost nothing, and are left alone all the same.
        x = with(0, "aaaabbbb");
        for (int place = 1; place < 8; place++) {
            x.cut(place);
        }
        due("split(0)", x.split(0), 0);
        due("many(3)", x.many(3), 1);
        due("taken(0)", x.taken(0), 4);
    }

    private static void splitFirst() {
        // At 1 or at 3 alike, one block more than whole: the first one.
        BestParses x = with(0, "abab");
        x.cut(3);
        x.cut(1);
        due("split(40)", x.split(40), 240);
        due("many(3)", x.many(3), 1);
        due("taken(0)", x.taken(0), 1);
        // The same twice, parted by what has to be cut off: 1 of 1 and 3, then of 4 and on the first one.
        String part = "abab" + same('c', 20) + "abab";
        x = with(0, part);
        for (int place : new int[] {27, 25, 24, 4, 3, 1}) {
            x.cut(place);
        }
        due("split(40)", x.split(40), 240 + 40 + 240);
        int[] taken = {1, 4, 24, 25};
        due("many(3)", x.many(3), taken.length);
        for (int k = 0; k < taken.length; k++) {
            due("taken(" + k + ")", x.taken(k), taken[k]);
        }
    }

    private static void cutsStay() {
        BestParses x = with(0, "aabb");
        due("cut(2)", x.cut(2), 1);
        due("cut(4)", x.cut(4), -1);
        x.octets(2, 'c' << 8 | 'c');
        due("many(2)", x.many(2), 1);
        due("cut(2)", x.cut(2), -1);
        due("cut(4), inside now", x.cut(4), 2);
        due("split(1)", x.split(1), 3);
        due("taken(0)", x.taken(0), 2);
        due("taken(1)", x.taken(1), 4);
    }

    private static void takenByTheLatest() {
        BestParses x = with(0, "aabb");
        x.cut(2);
        due("taken(0) before", x.taken(0), -1);
        x.split(0);
        due("taken(0)", x.taken(0), 2);
        x.cut(1);
        x.parse(3);
        x.rounds(1);
        x.octets(1, 'x');
        x.split(-1);
        due("taken(0) of the latest one", x.taken(0), 2);
        due("many(3) of the latest one", x.many(3), 1);
        x.split(100000);
        due("taken(0) of another", x.taken(0), -1);
        due("many(3) of another", x.many(3), 0);
    }

    private static void takenNone() {
        BestParses x = with(0, "aabbcc");
        x.cut(2);
        x.cut(4);
        x.split(0);
        for (int k : new int[] {MIN, -1, 2, 3, 11, 12, 13, MAX}) {
            due("taken(" + k + ")", x.taken(k), -1);
        }
        due("taken(0)", x.taken(0), 2);
        due("taken(1)", x.taken(1), 4);
        x.clear();
        due("taken(0) behind clear()", x.taken(0), -1);
    }

    private static void manySteps() {
        BestParses x = with(0, "abcabc");
        due("many(1) without", x.many(1), 0);
        x.parse(0);
        due("many(1)", x.many(1), 4);
        x.parse(9);
        due("many(1) behind a refusal", x.many(1), 4);
        x.octets(1, 0);
        due("many(1) behind octets()", x.many(1), 0);
    }

    private static void manyDropped() {
        BestParses x = with(2, "ababc");
        x.keep(1);
        due("many(4) before", x.many(4), 0);
        x.parse(3);
        due("many(4)", x.many(4), 1);
        for (int how = 0; how < 3; how++) {
            x.parse(how);
            due("many(4) behind parse(" + how + ")", x.many(4), 1);
        }
        x.keep(40);
        x.octets(1, 'd');
        due("many(4), still of the latest BEST", x.many(4), 1);
        x.parse(3);
        due("many(4) of the next one", x.many(4), 0);
        x.keep(1);
        x.rounds(1);
        due("many(4) of rounds()", x.many(4) > 0, true);
        x.keep(40);
        x.rounds(3);
        due("many(4) of rounds()", x.many(4), 0);
        for (int form = 0; form < 2; form++) {
            x = with(form, SOME);
            x.parse(3);
            due("many(4) in form " + form, x.many(4), 0);
        }
    }

    private static void manyOther() {
        for (int form = 0; form < 3; form++) {
            BestParses x = with(form, "abcabc");
            for (int what : new int[] {MIN, -2, -1, 7, 8, MAX}) {
                due("many(" + what + ")", x.many(what), -1);
            }
        }
    }

    private static void clearedIsNew() {
        for (int form = 0; form < 3; form++) {
            BestParses x = full(form);
            x.clear();
            BestParses fresh = new BestParses(form);
            due("state", stateOf(x), stateOf(fresh));
            add(x, SOME);
            add(fresh, SOME);
            due("state with a text", stateOf(x), stateOf(fresh));
            due("what comes", future(x), future(fresh));
        }
    }

    private static void clearedTwice() {
        for (int form = 0; form < 3; form++) {
            BestParses x = new BestParses(form);
            String before = stateOf(x);
            x.clear();
            x.clear();
            due("state", stateOf(x), before);
            x.parse(3);
            x.clear();
            due("state", stateOf(x), before);
        }
    }

    private static void trierOfAll() {
        BestParses x = with(0, different(300));
        for (int i = 0; i < 300; i++) {
            due("trier(" + i + ")", x.trier(i), i < 256 ? i : 511 - i);
        }
        due("trier(300) throws", throwsOf(x, 300), true);
    }

    private static void trierThrows() {
        for (int form = 0; form < 3; form++) {
            BestParses x = new BestParses(form);
            for (int i : new int[] {MIN, -1, 0, 1, 299, 300, MAX}) {
                due("trier(" + i + ") of nothing throws", throwsOf(x, i), true);
            }
            x.octets(2, -1);
            for (int i : new int[] {MIN, -1, 2, 3, 299, 300, MAX}) {
                due("trier(" + i + ") throws", throwsOf(x, i), true);
            }
            due("trier(0) throws", throwsOf(x, 0), false);
            due("trier(1) throws", throwsOf(x, 1), false);
            x.clear();
            due("trier(0) behind clear() throws", throwsOf(x, 0), true);
        }
    }

    /** A full text, all cuts, other costs, another KEPT, a parse, a split. */
    private static BestParses full(int form) {
        BestParses x = new BestParses(form);
        for (int i = 0; i < 300; i++) {
            x.octets(1, i % 9 * (i % 4) + i / 150);
        }
        for (int i = 1; i <= 12; i++) {
            x.cut(23 * i);
        }
        for (int kind = 0; kind < 4; kind++) {
            x.cost(kind, 0, 77);
            x.cost(kind, SYMBOLS[kind] - 1, 78);
        }
        x.keep(3);
        x.parse(3);
        x.split(50);
        return x;
    }

    private static List<BestParses> someStates(int form) {
        List<BestParses> all = new ArrayList<>();
        all.add(new BestParses(form));
        all.add(with(form, SOME));
        all.add(full(form));
        for (int how = 0; how < 4; how++) {
            BestParses x = with(form, SOME);
            x.cut(11);
            x.cut(40);
            x.split(30);
            x.parse(how);
            all.add(x);
        }
        BestParses x = new BestParses(form);
        x.parse(3);
        all.add(x);
        x = with(form, SOME);
        x.rounds(3);
        all.add(x);
        return all;
    }

    private static void refusedChangesNothing() {
        for (int form = 0; form < 3; form++) {
            List<BestParses> refusing = someStates(form);
            List<BestParses> left = someStates(form);
            for (int i = 0; i < left.size(); i++) {
                BestParses x = refusing.get(i);
                String before = stateOf(left.get(i));
                refuseAll(x);
                due("state " + i + " of form " + form, stateOf(x), before);
                due("what comes from " + i + " of form " + form, future(x), future(left.get(i)));
            }
        }
    }

    private static void refuseAll(BestParses x) {
        int size = x.many(0);
        int form = x.many(6);
        int[] wrong = {MIN, MIN + 1, -301, -1, 301, 100001, MAX - 1, MAX};
        refuse("octets", n -> x.octets(n, -1), wrong);
        refuse("octets", n -> x.octets(n, -1), 0, 9);
        if (size == 300) {
            refuse("octets", n -> x.octets(n, -1), 1, 2, 3, 4, 5, 6, 7, 8);
        }
        for (int kind = 0; kind < 4; kind++) {
            int k = kind;
            refuse("cost of a symbol", n -> x.cost(k, n, 9), wrong);
            refuse("cost of v", n -> x.cost(k, 0, n), MIN, -1, 0, 10001, MAX);
            refuse("cost of the next symbol", n -> x.cost(k, n, 9), SYMBOLS[kind]);
            refuse("price", n -> x.price(k, n), wrong);
            if (form == 1 || form == 0 && kind == 3) {
                refuse("cost", n -> x.cost(k, n, 9), 0, 1, 6);
            }
        }
        refuse("cost of a class", n -> x.cost(n, 0, 9), wrong);
        refuse("cost of a class", n -> x.cost(n, 0, 9), 4);
        refuse("keep", x::keep, wrong);
        refuse("keep", x::keep, 0, 41);
        if (form != 2) {
            refuse("keep", x::keep, 1, 8, 40);
        }
        refuse("parse", x::parse, wrong);
        refuse("parse", x::parse, 4);
        refuse("rounds", n -> (int) x.rounds(n), wrong);
        refuse("rounds", n -> (int) x.rounds(n), 0, 9);
        if (form == 1 || size == 0) {
            refuse("rounds", n -> (int) x.rounds(n), 1, 8);
        }
        refuse("cut", x::cut, wrong);
        refuse("cut", x::cut, 0, size);
        if (x.many(2) == 12) {
            refuse("cut", x::cut, 1, 23, 24, 299);
        }
        refuse("split", n -> (int) x.split(n), MIN, -1, 100001, MAX);
        if (size == 0) {
            refuse("split", n -> (int) x.split(n), 0, 100000);
        }
        for (int i : wrong) {
            due("trier(" + i + ") throws", throwsOf(x, i), true);
        }
        due("trier(size) throws", throwsOf(x, size), true);
        refuse("told", x::told, wrong);
        refuse("longest", x::longest, wrong);
        refuse("taken", x::taken, wrong);
        refuse("many", x::many, wrong);
        for (int other : wrong) {
            refuse("step", n -> x.step(n, other), wrong);
            refuse("distance", n -> x.distance(n, other), wrong);
        }
    }

    private static void refuse(String call, IntUnaryOperator asked, int... arguments) {
        for (int n : arguments) {
            due(call + " " + n, asked.applyAsInt(n), -1);
        }
    }

    private static void manyCalls() {
        BestParses x = new BestParses(2);
        for (int i = 0; i < 300; i++) {
            x.octets(1, i * i % 23);
        }
        x.keep(40);
        for (int i = 1; i <= 12; i++) {
            x.cut(24 * i);
        }
        for (int i = 0; i < 96; i++) {
            x.cost(i % 4, i % 7, 100 + i);
            x.price(i % 4, i % 7);
        }
        due("call 506", x.rounds(8) > 0, true);
        due("call 507", x.split(100) > 0, true);
        due("call 508", x.told(299), 299 * 299 % 23);
        due("call 509", x.parse(2) > 0, true);
        due("call 510", x.told(299), 299 * 299 % 23);
        due("call 511", x.octets(1, 1), -1);
        due("call 512", x.trier(299), 299 * 299 % 23);
    }

    private static String prices(BestParses x) {
        StringBuilder all = new StringBuilder();
        for (int kind = 0; kind < 4; kind++) {
            for (int symbol = 0; symbol < SYMBOLS[kind]; symbol++) {
                all.append(x.price(kind, symbol)).append(' ');
            }
        }
        return all.toString();
    }

    private static String steps(BestParses x) {
        StringBuilder all = new StringBuilder();
        for (int i = 0; i <= x.many(1); i++) {
            all.append(stepOf(x, i)).append(", ");
        }
        for (int i = 0; i <= x.many(0); i++) {
            all.append(x.told(i)).append(' ');
        }
        return all.toString();
    }

    /** All that can be asked without changing anything. */
    private static String stateOf(BestParses x) {
        StringBuilder all = new StringBuilder();
        for (int what = -1; what <= 7; what++) {
            all.append(x.many(what)).append(' ');
        }
        all.append(x.sum()).append(' ').append(x.again()).append(' ').append(x.least()).append(' ');
        all.append(steps(x)).append(prices(x));
        for (int k = 0; k <= 12; k++) {
            all.append(x.taken(k)).append(' ');
        }
        for (int place = 0; place < x.many(0); place++) {
            int longest = x.longest(place);
            all.append(x.trier(place)).append(' ').append(longest).append(' ');
            all.append(x.distance(place, longest)).append(' ').append(x.distance(place, 4)).append(' ');
        }
        return all.toString();
    }

    /** What calls answer that change something: what can't be asked for shows in them. */
    private static String future(BestParses x) {
        StringBuilder all = new StringBuilder();
        all.append(x.split(0)).append(' ').append(x.split(77)).append(' ').append(stateOf(x));
        for (int place = 0; place < x.many(0); place += 5) {
            all.append(x.cut(place)).append(' ');
        }
        all.append(x.split(0)).append(' ').append(x.octets(3, 0x616263)).append(' ');
        for (int how = 0; how < 4; how++) {
            all.append(x.parse(how)).append(' ').append(x.sum()).append(' ');
        }
        all.append(x.rounds(2)).append(' ').append(stateOf(x));
        return all.toString();
    }
}
