import java.util.ArrayList;
import java.util.LinkedHashSet;
import java.util.List;
import java.util.Set;

/** Each sentence of the document's section "Terms" that names a boundary case, by a test of its own. */
public final class TermBoundariesTest extends Checks {
    private static final int[] LEAST = {3, 4, 2};
    private static final int[] GREATEST = {258, 300, 273};

    // The least x of each LENGTH SLOT and of each DISTANCE SLOT.
    private static final int[] LENGTH_SLOTS = {0, 1, 2, 3, 4, 5, 6, 7, 8, 10, 12, 14, 16, 20, 24, 28, 32, 40, 48,
        56, 64, 80, 96, 112, 128, 160, 192, 224, 256, 320};
    private static final int[] DISTANCE_SLOTS = {0, 1, 2, 3, 4, 6, 8, 12, 16, 24, 32, 48, 64, 96, 128, 192, 256,
        384};

    public static void main(String[] args) {
        sentence("THE TEXT has at most 300 octets", TermBoundariesTest::fullText);
        sentence("DISTANCE (1 or more)", TermBoundariesTest::nothingBeforeTheBeginning);
        sentence("they may reach into themselves", TermBoundariesTest::intoThemselves);
        sentence("LENGTH is from LEAST", TermBoundariesTest::leastLength);
        sentence("to GREATEST of its FORM", TermBoundariesTest::greatestLength);
        sentence("GREATEST, by BEST", TermBoundariesTest::greatestLengthOfBest);
        sentence("the DISTANCE is the least", TermBoundariesTest::leastDistance);
        sentence("AGAIN: LENGTH octets (2 or more)", TermBoundariesTest::leastAgain);
        sentence("if so far back is something", TermBoundariesTest::nothingSoFarBack);
        sentence("SHORT: one octet by the 0-th", TermBoundariesTest::shortByTheFirst);
        sentence("SHORT, likewise", TermBoundariesTest::shortAtTheBeginning);
        sentence("LATEST DISTANCES are 1, 1, 1, 1 at first", TermBoundariesTest::latestAtFirst);
        sentence("a COPY puts its DISTANCE ahead (the last one goes)", TermBoundariesTest::latestBehindCopies);
        sentence("AGAIN k puts that one ahead", TermBoundariesTest::latestBehindAgain);
        sentence("LITERALS and SHORT change nothing", TermBoundariesTest::latestBehindShort);
        sentence("LITERALS in a row, if they are 15 or more", TermBoundariesTest::literalsInARow);
        sentence("LITERALS from the beginning, or behind a COPY", TermBoundariesTest::rowsOfLiterals);
        sentence("a COPY 3, and if LENGTH is 19 or more", TermBoundariesTest::copiesOfOctets);
        sentence("the end 1", TermBoundariesTest::endOfOctets);
        sentence("FORM 2: KIND 0 to 6", TermBoundariesTest::costsOfKinds);
        sentence("LENGTH SLOT, FORM 0", TermBoundariesTest::lengthSlots);
        sentence("LENGTH SLOT, FORM 2", TermBoundariesTest::lengthSlotsWithLatest);
        sentence("LENGTH SLOT of AGAIN", TermBoundariesTest::lengthSlotsOfAgain);
        sentence("DISTANCE SLOT", TermBoundariesTest::distanceSlots);
        sentence("DISTANCES up to the greatest, by BEST", TermBoundariesTest::farDistances);
        sentence("COSTS at first", TermBoundariesTest::costsAtFirst);
        sentence("GREEDY: the STEP that is longest", TermBoundariesTest::greedyLongest);
        sentence("GREEDY: of AGAINS as long as a COPY", TermBoundariesTest::greedyAgain);
        sentence("GREEDY: if there is none, a LITERAL", TermBoundariesTest::greedyLiteral);
        sentence("LAZY by n: one of the next n places", TermBoundariesTest::lazyPlaces);
        sentence("LAZY: a longer one", TermBoundariesTest::lazyLonger);
        sentence("LAZY: at the end", TermBoundariesTest::lazyAtTheEnd);
        sentence("BEST: of like SUM by how many LITERALS", TermBoundariesTest::likeSumsByLiterals);
        sentence("BEST: of like SUM by the LATEST DISTANCES", TermBoundariesTest::likeSumsByLatest);
        sentence("BEST: if that had a greater SUM", TermBoundariesTest::likeSumsOfOneState);
        sentence("only the first KEPT of them", TermBoundariesTest::firstKept);
        sentence("KEPT is 1 to 40", TermBoundariesTest::keptStates);
        sentence("KEPT: 8 at first", TermBoundariesTest::keptAtFirst);
        sentence("the end is no place", TermBoundariesTest::endIsNoPlace);
        sentence("LEAST if no STATE was DROPPED: FORMS 0 and 1", TermBoundariesTest::neverDropped);
        sentence("LOG(v)", TermBoundariesTest::logs);
        sentence("TO FIT: how often a symbol stands in it", TermBoundariesTest::fitCounts);
        sentence("TO FIT: FORM 0 has no KINDS", TermBoundariesTest::fitWithoutKinds);
        sentence("TO FIT: at least 1", TermBoundariesTest::fitAtLeastOne);
        finish();
    }

    private static void fullText() {
        for (int n = 1; n <= 8; n++) {
            BestParses x = with(0, same('f', 300 - n));
            due("octets(" + n + ") up to 300", x.octets(n, -1), 300);
            due("trier(299)", x.trier(299), 255);
            due("octets(1) of a full one", x.octets(1, 0), -1);
            x = with(0, same('f', 301 - n));
            due("octets(" + n + ") up to 301", x.octets(n, -1), -1);
            due("many(0)", x.many(0), 301 - n);
            due("trier beyond", throwsOf(x, 301 - n), true);
        }
    }

    private static void nothingBeforeTheBeginning() {
        for (int form = 0; form < 3; form++) {
            BestParses x = with(form, same('\0', 12));
            due("longest(0)", x.longest(0), 0);
            due("distance(0, 5)", x.distance(0, 5), -1);
            due("longest(1)", x.longest(1), 11);
            due("distance(1, 11)", x.distance(1, 11), 1);
            for (int how = 0; how < 4; how++) {
                x.parse(how);
                due("step 0 of parse(" + how + ")", stepOf(x, 0), "0 1 0 0");
            }
        }
    }

    private static void intoThemselves() {
        for (int form = 0; form < 3; form++) {
            String text = "ababababa";
            BestParses x = with(form, text);
            for (int how = 0; how < 4; how++) {
                x.parse(how);
                dueSteps(x, literals(2, "2 7 2 1"));
                for (int i = 0; i < text.length(); i++) {
                    due("told(" + i + ")", x.told(i), text.charAt(i));
                }
            }
        }
    }

    private static void leastLength() {
        for (int form = 0; form < 3; form++) {
            int least = LEAST[form];
            BestParses x = with(form, "wxyz-" + "wxyz".substring(0, least - 1));
            due("longest(5)", x.longest(5), 0);
            due("distance of too few", x.distance(5, least - 1), -1);
            for (int how = 0; how < 4; how++) {
                x.parse(how);
                dueSteps(x, literals(5 + least - 1));
            }
            x = with(form, "wxyz-" + "wxyz".substring(0, least));
            due("longest(5)", x.longest(5), least);
            due("distance of just so many", x.distance(5, least), 5);
            x.parse(0);
            dueSteps(x, literals(5, "5 " + least + " 5 1"));
        }
    }

    private static void greatestLength() {
        int[] place = {42, 1, 27};
        for (int form = 0; form < 3; form++) {
            BestParses x = with(form, same('q', 300));
            int most = Math.min(299, GREATEST[form]);
            due("longest(1)", x.longest(1), most);
            due("distance of the greatest", x.distance(1, most), 1);
            due("distance of one more", x.distance(1, most + 1), -1);
            due("longest where just so many are left", x.longest(place[form]), most);
            due("longest one further", x.longest(place[form] + 1), most - 1);
            x.parse(0);
            due("step 1", x.step(1, 1), most);
        }
    }

    // LENGTH SLOT 28 begins one above the greatest LENGTH of form 0, at LENGTH 258 in form 2.
    private static void greatestLengthOfBest() {
        BestParses x = new BestParses(0);
        for (int i = 0; i < 300; i++) {
            x.octets(1, i & 1);
        }
        x.cost(1, 28, 1);
        for (int slot = 0; slot < 28; slot++) {
            x.cost(1, slot, 10000);
        }
        x.cost(0, 0, 10000);
        x.cost(0, 1, 10000);
        x.parse(3);
        for (int i = 0; i < x.many(1); i++) {
            due("length " + x.step(i, 1) + " of step " + i + " can be", x.step(i, 1) <= 258, true);
        }
        due("sum()", x.sum(), 2 * 10000 + 2 * (10000 + 320) + 5 * 64 + 3 * 64);
        x = with(2, same('q', 300));
        x.parse(3);
        for (int i = 0; i < x.many(1); i++) {
            due("length " + x.step(i, 1) + " of step " + i + " can be", x.step(i, 1) <= 273, true);
        }
    }

    private static void leastDistance() {
        for (int form = 0; form < 3; form++) {
            // "abcde" by 12 alone, "abcd" by 6 too.
            BestParses x = with(form, "abcdefabcd-+abcde");
            due("distance(12, 5)", x.distance(12, 5), 12);
            due("distance(12, 4)", x.distance(12, 4), 6);
            due("distance(12, 6)", x.distance(12, 6), -1);
            add(x, "abcde");
            due("distance(17, 5)", x.distance(17, 5), 5);
            due("distance(12, 5) as it was", x.distance(12, 5), 12);
        }
    }

    private static void leastAgain() {
        // One octet the same, by all four: an AGAIN of one octet would be next to nothing.
        BestParses x = with(2, "aab");
        for (int kind = 2; kind <= 5; kind++) {
            x.cost(3, kind, 1);
        }
        x.cost(1, 0, 1);
        x.cost(3, 6, 10000);
        x.parse(3);
        dueSteps(x, literals(3));
        x.parse(0);
        dueSteps(x, literals(3));
        x = with(2, "aaab");
        x.parse(0);
        dueSteps(x, "0 1 0 0", "1 2 1 2", "3 1 0 0");
    }

    private static void nothingSoFarBack() {
        // Where there is nothing a row of zeros must not stand for it.
        for (int size = 1; size <= 4; size++) {
            BestParses x = with(2, same('\0', size));
            x.cost(0, 0, 10000);
            for (int kind = 1; kind <= 6; kind++) {
                x.cost(3, kind, 1);
            }
            for (int how = 0; how < 4; how++) {
                x.parse(how);
                due("step 0 of parse(" + how + ")", stepOf(x, 0), "0 1 0 0");
            }
        }
    }

    private static void shortByTheFirst() {
        // Behind the copy by 3 the last b is the same by 1, which is the 1st then, but not by 3.
        BestParses x = with(2, "abcabb");
        for (int octet = 'a'; octet <= 'c'; octet++) {
            x.cost(0, octet, 10000);
        }
        for (int kind = 0; kind <= 5; kind++) {
            x.cost(3, kind, 10000);
        }
        x.cost(3, 1, 1);
        x.cost(3, 6, 1);
        x.parse(3);
        dueSteps(x, literals(3, "3 2 3 1", "5 1 0 0"));
        // By 3 it can be: there is a c.
        x = with(2, "abcabcc");
        x.cost(1, 1, 10000);
        x.parse(3);
        dueSteps(x, literals(3, "3 2 3 1", "5 1 3 6", "6 1 0 0"));
    }

    private static void shortAtTheBeginning() {
        BestParses x = with(2, "\0");
        x.cost(3, 6, 1);
        x.cost(3, 0, 10000);
        x.parse(3);
        dueSteps(x, literals(1));
        add(x, "\0");
        x.parse(3);
        dueSteps(x, literals(1, "1 1 1 6"));
    }

    private static void latestAtFirst() {
        for (int k = 0; k < 4; k++) {
            BestParses x = with(2, "aaa");
            for (int kind = 1; kind <= 6; kind++) {
                x.cost(3, kind, kind == 2 + k ? 1 : 10000);
            }
            x.parse(3);
            dueSteps(x, literals(1, "1 2 1 " + (2 + k)));
        }
    }

    /** Two octets by each of these distances, and behind each an octet that stands nowhere else. */
    private static String copied(int... distances) {
        StringBuilder all = new StringBuilder(different(60));
        for (int d : distances) {
            all.append(all.charAt(all.length() - d));
            all.append(all.charAt(all.length() - d));
            all.append((char) (200 + all.length() - 60));
        }
        return all.toString();
    }

    private static void latestBehindCopies() {
        int[] latest = {41, 44, 47, 50};
        for (int k = 0; k < 4; k++) {
            BestParses x = with(2, copied(50, 47, 44, 41, latest[k]));
            x.parse(0);
            dueSteps(x, literals(60, "60 2 50 1", "62 1 0 0", "63 2 47 1", "65 1 0 0", "66 2 44 1", "68 1 0 0",
                    "69 2 41 1", "71 1 0 0", "72 2 " + latest[k] + " " + (2 + k), "74 1 0 0"));
        }
        // The fifth distance drives the first one out: by 50 is a copy again, by 47 the last AGAIN.
        BestParses x = with(2, copied(50, 47, 44, 41, 38, 50));
        x.parse(0);
        due("by 50", stepOf(x, 70), "75 2 50 1");
        x = with(2, copied(50, 47, 44, 41, 38, 47));
        x.parse(0);
        due("by 47", stepOf(x, 70), "75 2 47 5");
    }

    private static void latestBehindAgain() {
        int[][] behind = {{41, 44, 47, 50}, {44, 41, 47, 50}, {47, 41, 44, 50}, {50, 41, 44, 47}};
        for (int k = 0; k < 4; k++) {
            for (int j = 0; j < 4; j++) {
                BestParses x = with(2, copied(50, 47, 44, 41, behind[k][0], behind[k][j]));
                x.parse(0);
                due("AGAIN " + k, stepOf(x, 68), "72 2 " + behind[k][0] + " " + (2 + k));
                due("AGAIN " + j + " behind it", stepOf(x, 70), "75 2 " + behind[k][j] + " " + (2 + j));
            }
        }
    }

    private static void latestBehindShort() {
        StringBuilder all = new StringBuilder(copied(50, 47));
        all.append(all.charAt(all.length() - 47)).append("!");
        for (int i = 0; i < 3; i++) {
            all.append(all.charAt(all.length() - 50));
        }
        all.append("?");
        for (int i = 0; i < 3; i++) {
            all.append(all.charAt(all.length() - 47));
        }
        BestParses x = with(2, all.toString());
        x.parse(3);
        dueSteps(x, literals(60, "60 2 50 1", "62 1 0 0", "63 2 47 1", "65 1 0 0", "66 1 47 6", "67 1 0 0",
                "68 3 50 3", "71 1 0 0", "72 3 47 3"));
    }

    private static void literalsInARow() {
        int[][] wanted = {{1, 2}, {14, 15}, {15, 17}, {16, 18}, {269, 271}, {270, 273}, {271, 274}, {300, 303}};
        for (int[] w : wanted) {
            BestParses x = with(1, different(w[0]));
            for (int how = 0; how < 4; how++) {
                x.parse(how);
                due("many(1)", x.many(1), w[0]);
                due("sum() of " + w[0], x.sum(), 512L * w[1]);
                due("again() of " + w[0], x.again(), 512L * w[1]);
            }
        }
    }

    private static void rowsOfLiterals() {
        String four = different(4);
        for (int first = 13; first <= 16; first++) {
            for (int second = 0; second <= 16; second++) {
                String text = different(first) + four + different(100 + second).substring(100);
                int octets = first + (first >= 15 ? 1 : 0) + 3 + second + (second >= 15 ? 1 : 0) + 1;
                BestParses x = with(1, text);
                for (int how = 0; how < 4; how++) {
                    x.parse(how);
                    due("sum() of " + first + " and " + second, x.sum(), 512L * octets);
                }
            }
        }
    }

    private static void copiesOfOctets() {
        int[][] copies = {{4, 5}, {18, 5}, {19, 6}, {20, 6}, {273, 6}, {274, 7}, {275, 7}, {299, 7}};
        for (int[] c : copies) {
            BestParses x = with(1, same('q', c[0] + 1));
            for (int how = 0; how < 4; how++) {
                x.parse(how);
                dueSteps(x, literals(1, "1 " + c[0] + " 1 1"));
                due("sum() of " + c[0], x.sum(), 512L * c[1]);
                due("again() of " + c[0], x.again(), 512L * c[1]);
            }
        }
    }

    private static void endOfOctets() {
        for (int how = 0; how < 4; how++) {
            BestParses x = new BestParses(1);
            x.parse(how);
            due("sum() of nothing", x.sum(), 512);
            due("again() of nothing", x.again(), 512);
        }
    }

    private static void costsOfKinds() {
        // Which kind is cheap decides what the two octets are told by.
        for (int kind = 1; kind <= 6; kind++) {
            BestParses x = with(2, "aaa");
            for (int i = 1; i <= 6; i++) {
                x.cost(3, i, i == kind ? 1 : 10000);
            }
            x.cost(0, 'a', 4000);
            x.parse(3);
            due("kind of step 1", x.step(1, 3), kind);
            for (int i = 0; i <= 6; i++) {
                x.cost(3, i, 1000 + 100 * i);
            }
            x.cost(0, 'a', 7);
            x.cost(1, 0, 20);
            x.cost(2, 0, 3);
            long literal = 1000 + 7;
            long step = 1000 + 100 * kind + (kind == 6 ? 0 : 20) + (kind == 1 ? 3 : 0);
            due("again() with kind " + kind, x.again(), literal + (kind == 6 ? 2 : 1) * step);
        }
    }

    private static int slotOf(int[] leastOfSlots, int x) {
        int slot = 0;
        while (leastOfSlots[slot + 1] <= x) {
            slot++;
        }
        return slot;
    }

    private static int lengthPrice(int length, int least) {
        int slot = slotOf(LENGTH_SLOTS, length - least);
        return 1000 + slot + (slot < 8 ? 0 : 64 * (slot / 4 - 1));
    }

    private static int distancePrice(int d) {
        int slot = slotOf(DISTANCE_SLOTS, d - 1);
        return 2000 + slot + (slot < 4 ? 0 : 64 * (slot / 2 - 1));
    }

    private static void tellSlotsApart(BestParses x) {
        for (int slot = 0; slot < 32; slot++) {
            x.cost(1, slot, 1000 + slot);
        }
        for (int slot = 0; slot < 20; slot++) {
            x.cost(2, slot, 2000 + slot);
        }
    }

    private static void lengthSlots() {
        BestParses x = with(0, same('q', 3));
        tellSlotsApart(x);
        for (int length = 3; length <= 258; length++) {
            x.octets(1, 'q');
            x.parse(0);
            due("length", x.step(1, 1), length);
            due("sum() of length " + length, x.sum(), 512 + lengthPrice(length, 3) + 2000);
        }
    }

    private static void lengthSlotsWithLatest() {
        BestParses x = with(2, "xyx");
        tellSlotsApart(x);
        for (int length = 2; length <= 273; length++) {
            x.octets(1, (length & 1) == 0 ? 'y' : 'x');
            x.parse(0);
            due("step", stepOf(x, 2), "2 " + length + " 2 1");
            due("sum() of length " + length, x.sum(), 2 * 576 + 64 + lengthPrice(length, 2) + 2001);
        }
    }

    private static void lengthSlotsOfAgain() {
        BestParses x = with(2, "xx");
        tellSlotsApart(x);
        for (int length = 2; length <= 273; length++) {
            x.octets(1, 'x');
            x.parse(0);
            due("step", stepOf(x, 1), "1 " + length + " 1 2");
            due("sum() of length " + length, x.sum(), 576 + 64 + lengthPrice(length, 2));
        }
    }

    private static void distanceSlots() {
        for (int form = 0; form < 3; form += 2) {
            int least = LEAST[form];
            for (int d = 2; d <= 300 - least; d++) {
                StringBuilder text = new StringBuilder(different(d));
                for (int i = 0; i < least; i++) {
                    text.append(text.charAt(i));
                }
                BestParses x = with(form, text.toString());
                tellSlotsApart(x);
                x.parse(0);
                due("last step", stepOf(x, d), d + " " + least + " " + d + " 1");
                long rest = form == 0 ? 512L * d : 576L * d + 64;
                due("sum() by " + d, x.sum(), rest + 1000 + distancePrice(d));
            }
        }
        BestParses x = with(0, "aaaa");
        tellSlotsApart(x);
        x.parse(0);
        due("sum() by 1", x.sum(), 512 + 1000 + 2000);
    }

    private static void farDistances() {
        for (int form = 0; form < 3; form++) {
            for (int d = 250; d <= 291; d++) {
                // Four octets by d, one of its own, and four by d once more.
                StringBuilder text = new StringBuilder(different(d));
                for (int i = 0; i < 9; i++) {
                    text.append(i == 4 ? (char) 200 : text.charAt(i));
                }
                BestParses x = with(form, text.toString());
                x.cost(3, 6, 10000);
                x.parse(3);
                String[] rest = {d + " 4 " + d + " 1", d + 4 + " 1 0 0", d + 5 + " 4 " + d + (form == 2 ? " 2" : " 1")};
                dueSteps(x, literals(d, rest));
            }
        }
        // The greatest one that there can be, of two octets.
        BestParses x = with(2, different(298) + different(2));
        x.cost(2, 16, 1);
        x.cost(3, 6, 10000);
        x.parse(3);
        dueSteps(x, literals(298, "298 2 298 1"));
        due("sum()", x.sum(), 298 * 576 + 64 + 320 + 1 + 7 * 64);
    }

    private static void costsAtFirst() {
        int[] symbols = {256, 32, 20, 7};
        int[] first = {512, 320, 320, 64};
        BestParses x = new BestParses(2);
        for (int kind = 0; kind < 4; kind++) {
            for (int symbol = 0; symbol < symbols[kind]; symbol++) {
                due("price(" + kind + ", " + symbol + ")", x.price(kind, symbol), first[kind]);
            }
            due("price beyond", x.price(kind, symbols[kind]), -1);
        }
    }

    private static void greedyLongest() {
        // By 3, the 0-th, two octets are the same, by 6 three.
        BestParses x = with(2, "ab1ab2ab1");
        x.parse(0);
        dueSteps(x, literals(3, "3 2 3 1", "5 1 0 0", "6 3 6 1"));
        x = with(2, "ab1ab2ab");
        x.parse(0);
        dueSteps(x, literals(3, "3 2 3 1", "5 1 0 0", "6 2 3 2"));
    }

    private static void greedyAgain() {
        // All four are 1.
        BestParses x = with(2, "aaa");
        x.parse(0);
        dueSteps(x, literals(1, "1 2 1 2"));
        // The copy would be by 3, the 1st of the latest is 44.
        x = with(2, copied(50, 47, 44, 41, 44));
        due("distance(72, 2)", x.distance(72, 2), 3);
        x.parse(0);
        due("AGAIN 1", stepOf(x, 68), "72 2 44 3");
        // By 47 and by 50 alike, in either order: the one of least k.
        x = with(2, sameByTwo(50, 47));
        x.parse(0);
        due("AGAIN 0 by 47", stepOf(x, x.many(1) - 1), "70 2 47 2");
        x = with(2, sameByTwo(47, 50));
        x.parse(0);
        due("AGAIN 0 by 50", stepOf(x, x.many(1) - 1), "70 2 50 2");
    }

    /** Two copies, and then at place 70 two octets that are the same by 47 and by 50. */
    private static String sameByTwo(int first, int second) {
        StringBuilder all = new StringBuilder(copied());
        all.setCharAt(23, all.charAt(20));
        all.setCharAt(24, all.charAt(21));
        for (int d : new int[] {first, second}) {
            all.append(all.charAt(all.length() - d));
            all.append(all.charAt(all.length() - d));
            all.append((char) (200 + all.length() - 60));
            all.append((char) (200 + all.length() - 60));
        }
        all.append("\u00f0\u00f1");
        return all.append(all.charAt(20)).append(all.charAt(21)).toString();
    }

    private static void greedyLiteral() {
        for (int form = 0; form < 3; form++) {
            BestParses x = with(form, "a");
            x.parse(0);
            dueSteps(x, literals(1));
            // One octet the same is no step of GREEDY, though SHORT would be.
            x = with(form, "aa");
            for (int how = 0; how < 3; how++) {
                x.parse(how);
                dueSteps(x, literals(2));
            }
        }
    }

    private static void lazyPlaces() {
        // At 9 three octets, and four one place further.
        String[] near = literals(9, "9 3 9 1", "12 1 0 0", "13 1 0 0");
        String[] far = literals(10, "10 4 6 1");
        BestParses x = with(0, "abcxbcdeyabcde");
        x.parse(0);
        dueSteps(x, near);
        x.parse(1);
        dueSteps(x, far);
        x.parse(2);
        dueSteps(x, far);
        // Four two places further.
        near = literals(9, "9 3 9 1", "12 3 7 1");
        far = literals(11, "11 4 7 1");
        x = with(0, "abcxcdefyabcdef");
        x.parse(1);
        dueSteps(x, near);
        x.parse(2);
        dueSteps(x, far);
        // Four three places further: too far.
        near = literals(9, "9 3 9 1", "12 4 8 1");
        x = with(0, "abcxdefgyabcdefg");
        x.parse(2);
        dueSteps(x, near);
    }

    private static void lazyLonger() {
        // Three octets one and two places further are no longer ones.
        BestParses x = with(0, "abcxbcdycdezabcde");
        x.parse(1);
        dueSteps(x, literals(12, "12 3 12 1", "15 1 0 0", "16 1 0 0"));
        x.parse(2);
        dueSteps(x, literals(12, "12 3 12 1", "15 1 0 0", "16 1 0 0"));
        // Three, four and five one place after the other: each place asks anew.
        x = with(0, "abc1bcde2cdefg3abcdefg");
        x.parse(1);
        dueSteps(x, literals(9, "9 3 4 1", "12 1 0 0", "13 1 0 0", "14 1 0 0", "15 1 0 0", "16 1 0 0",
                "17 5 8 1"));
        x.parse(0);
        dueSteps(x, literals(9, "9 3 4 1", "12 1 0 0", "13 1 0 0", "14 1 0 0", "15 3 15 1", "18 4 8 1"));
    }

    private static void lazyAtTheEnd() {
        for (int how = 1; how <= 2; how++) {
            BestParses x = with(0, "abcabc");
            x.parse(how);
            dueSteps(x, literals(3, "3 3 3 1"));
            x = with(2, "aaa");
            x.parse(how);
            dueSteps(x, literals(1, "1 2 1 2"));
            x = with(1, same('z', 300));
            x.parse(how);
            dueSteps(x, literals(1, "1 299 1 1"));
        }
    }

    private static void likeSumsByLiterals() {
        // A copy of "abcd" and a literal, or a literal and a copy of "bcde": no literals at the end first.
        BestParses x = with(1, "abcd1bcde2abcde");
        x.parse(3);
        dueSteps(x, literals(11, "11 4 6 1"));
        due("sum()", x.sum(), 512 * (11 + 3 + 1));
        add(x, "cd1b");
        x.parse(3);
        dueSteps(x, literals(11, "11 4 6 1", "15 4 13 1"));
    }

    private static void likeSumsByLatest() {
        // Of the two ways to tell "abcde" the one behind which the lesser distance is the 0-th.
        BestParses x = with(2, "abcd1bcde2abcde");
        onlyCopiesOfFour(x);
        x.parse(3);
        dueSteps(x, literals(11, "11 4 6 1"));
        x = with(2, "bcde2abcd1abcde");
        onlyCopiesOfFour(x);
        x.parse(3);
        dueSteps(x, literals(10, "10 4 5 1", "14 1 0 0"));
    }

    // By 5 and 6 (slot 4, one EXTRA bit) they cost what they cost by 10 and 11 (slot 6, two).
    private static void onlyCopiesOfFour(BestParses x) {
        for (int slot = 0; slot < 32; slot++) {
            x.cost(1, slot, slot == 2 ? 1 : 10000);
        }
        x.cost(2, 4, 164);
        x.cost(2, 6, 100);
    }

    private static void likeSumsOfOneState() {
        // The copy came first, and three literals as dear as it don't drive it out.
        BestParses x = with(0, "abcabc");
        x.cost(0, 'a', 200);
        x.cost(0, 'b', 220);
        x.cost(0, 'c', 220);
        x.parse(3);
        dueSteps(x, literals(3, "3 3 3 1"));
        x.cost(0, 'c', 219);
        x.parse(3);
        dueSteps(x, literals(6));
        // COPY, AGAIN 0 to 3 in their order, all to one state; SHORT before the LITERAL.
        for (int kind = 1; kind <= 5; kind++) {
            x = with(2, "aaa");
            x.cost(2, 0, 1);
            x.cost(3, 6, 10000);
            for (int i = 1; i <= 5; i++) {
                x.cost(3, i, i < kind ? 102 : i == 1 ? 100 : 101);
            }
            x.parse(3);
            dueSteps(x, literals(1, "1 2 1 " + kind));
        }
        x = with(2, "aa");
        x.cost(3, 6, 576);
        x.parse(3);
        dueSteps(x, literals(1, "1 1 1 6"));
        x.cost(3, 6, 577);
        x.parse(3);
        dueSteps(x, literals(2));
    }

    private static void firstKept() {
        // At 4 the state behind the copy has the lesser sum, but by 2 there is no SHORT for the last b.
        BestParses x = with(2, "ababb");
        x.keep(1);
        x.parse(3);
        dueSteps(x, literals(2, "2 2 2 1", "4 1 0 0"));
        due("sum()", x.sum(), 3 * 576 + 64 + 320 + 320);
        due("least()", x.least(), false);
        due("many(4)", x.many(4), 1);
        x.keep(2);
        x.parse(3);
        dueSteps(x, literals(4, "4 1 1 6"));
        due("sum()", x.sum(), 4 * 576 + 64);
        due("least()", x.least(), true);
        due("many(4)", x.many(4), 0);
    }

    /** How many STATES the place with most of them has when none is dropped. */
    private static int mostStates(String text) {
        List<Set<List<Integer>>> states = new ArrayList<>();
        for (int i = 0; i <= text.length(); i++) {
            states.add(new LinkedHashSet<>());
        }
        states.get(0).add(List.of(1, 1, 1, 1));
        int most = 0;
        for (int place = 0; place < text.length(); place++) {
            most = Math.max(most, states.get(place).size());
            for (List<Integer> latest : states.get(place)) {
                states.get(place + 1).add(latest);
                for (int length = 2; place + length <= text.length(); length++) {
                    reach(states.get(place + length), text, place, length, latest);
                }
            }
        }
        return most;
    }

    private static void reach(Set<List<Integer>> there, String text, int place, int length, List<Integer> latest) {
        int d = 1;
        while (d <= place && !isSame(text, place, length, d)) {
            d++;
        }
        if (d <= place) {
            there.add(List.of(d, latest.get(0), latest.get(1), latest.get(2)));
        }
        for (int k = 0; k < 4; k++) {
            if (isSame(text, place, length, latest.get(k))) {
                List<Integer> moved = new ArrayList<>(latest);
                moved.add(0, moved.remove(k));
                there.add(moved);
            }
        }
    }

    private static boolean isSame(String text, int place, int length, int d) {
        return d <= place && text.substring(place, place + length).equals(
                text.substring(place - d, place - d + length));
    }

    private static void keptStates() {
        String[] texts = {"acacb", "babaabbaa", "ababbabab", "baababaaabbaa", "baababbaaabab", "babaaabaaaaba"};
        int[] states = {2, 8, 9, 39, 40, 41};
        for (int i = 0; i < texts.length; i++) {
            due("states of " + texts[i], mostStates(texts[i]), states[i]);
            for (int kept = 1; kept <= 40; kept++) {
                BestParses x = with(2, texts[i]);
                x.keep(kept);
                x.parse(3);
                due("least() of " + texts[i] + " with " + kept, x.least(), kept >= states[i]);
                due("many(4) above 0", x.many(4) > 0, kept < states[i]);
            }
        }
    }

    private static void keptAtFirst() {
        BestParses x = with(2, "babaabbaa");
        due("many(5)", x.many(5), 8);
        x.parse(3);
        due("least() of eight states", x.least(), true);
        x = with(2, "ababbabab");
        x.parse(3);
        due("least() of nine states", x.least(), false);
    }

    private static void endIsNoPlace() {
        BestParses x = with(2, "abab");
        x.keep(1);
        x.parse(3);
        due("least() with two states at the end", x.least(), true);
        due("many(4)", x.many(4), 0);
        x.octets(1, 'c');
        x.parse(3);
        due("least() with two states before it", x.least(), false);
        due("many(4)", x.many(4), 1);
    }

    private static void neverDropped() {
        for (int form = 0; form < 2; form++) {
            BestParses x = new BestParses(form);
            for (int i = 0; i < 300; i++) {
                x.octets(1, i % 7 * (i % 5));
            }
            x.parse(3);
            due("least()", x.least(), true);
            due("many(4)", x.many(4), 0);
        }
    }

    private static void logs() {
        int[][] logs = {{1, 0}, {2, 64}, {3, 96}, {4, 128}, {5, 144}, {7, 176}, {8, 192}, {9, 200}, {15, 248},
            {16, 256}, {17, 260}, {31, 316}, {32, 320}, {33, 322}, {63, 382}, {64, 384}, {65, 385}, {127, 447},
            {128, 448}, {129, 448}, {130, 449}, {255, 511}, {256, 512}};
        for (int[] l : logs) {
            // Octets that all stand once, and all but one that are the same.
            due("split(0) of " + l[0], with(0, different(l[0])).split(0), (long) l[0] * l[1]);
            BestParses x = with(0, same('a', l[0]) + "b");
            long whole = x.split(0) + (long) l[0] * l[1];
            due("LOG of " + l[0] + " counted", whole % (l[0] + 1), 0);
        }
        due("split(0) of 299", with(0, different(256) + different(43)).split(0), 299 * 522 - 43 * 2 * 64);
        due("split(0) of 300", with(0, different(256) + different(44)).split(0), 300 * 523 - 44 * 2 * 64);
        due("split(0) of 299 alike", with(0, same('a', 299)).split(0), 0);
        due("split(0) of 299 and 1", with(0, same('a', 299) + "b").split(0), 300 * 523 - 299 * 522);
    }

    private static void fitCounts() {
        // LOG(32) is 320, LOG(20) is 272, LOG(7) is 176: classes of which nothing stands there.
        BestParses x = with(2, "ab");
        x.rounds(1);
        for (int slot = 0; slot < 32; slot++) {
            due("price(1, " + slot + ")", x.price(1, slot), 320);
        }
        for (int slot = 0; slot < 20; slot++) {
            due("price(2, " + slot + ")", x.price(2, slot), 272);
        }
        // LOG(258) is 512 + 64 - 64; two octets of 256, and two kinds of seven: LOG(9) less LOG(3).
        due("price(0, a)", x.price(0, 'a'), 512 - 64);
        due("price(0, c)", x.price(0, 'c'), 512);
        due("price(0, 0)", x.price(0, 0), 512);
        due("price(0, 255)", x.price(0, 255), 512);
        due("price(3, 0)", x.price(3, 0), 200 - 96);
        due("price(3, 1)", x.price(3, 1), 200);
        due("price(3, 6)", x.price(3, 6), 200);
        // A copy by 3 of three octets: slots 0 and 2. LOG(33) is 322, LOG(21) is 276.
        x = with(0, "abcabc");
        x.rounds(1);
        due("price(1, 0)", x.price(1, 0), 322 - 64);
        due("price(1, 1)", x.price(1, 1), 322);
        due("price(2, 1)", x.price(2, 1), 276);
        due("price(2, 2)", x.price(2, 2), 276 - 64);
        due("price(2, 3)", x.price(2, 3), 276);
        // A literal, and a SHORT, which has neither length nor distance.
        x = with(2, "aa");
        x.rounds(1);
        due("price(1, 0)", x.price(1, 0), 320);
        due("price(2, 0)", x.price(2, 0), 272);
        due("price(3, 0)", x.price(3, 0), 200 - 64);
        due("price(3, 6)", x.price(3, 6), 200 - 64);
        due("price(0, a)", x.price(0, 'a'), 512 - 64);
        // A literal and AGAIN 0, which has no distance: LOG(33) is 322.
        x = with(2, same('a', 9));
        x.rounds(1);
        dueSteps(x, literals(1, "1 8 1 2"));
        due("price(1, 6)", x.price(1, 6), 322 - 64);
        due("price(1, 7)", x.price(1, 7), 322);
        due("price(2, 0)", x.price(2, 0), 272);
        due("price(3, 2)", x.price(3, 2), 200 - 64);
    }

    private static void fitWithoutKinds() {
        BestParses x = with(0, "abcabc");
        x.rounds(1);
        for (int kind = 0; kind < 7; kind++) {
            due("price(3, " + kind + ")", x.price(3, kind), -1);
        }
        due("sum() is of octets and slots", x.sum(), 3 * 512 + 320 + 320);
    }

    // With up to 300 steps no cost can come below 1 by itself; these come down to it.
    private static void fitAtLeastOne() {
        BestParses x = with(2, different(256));
        x.rounds(1);
        // LOG(263) is 513, LOG(257) is 512.
        due("many(1)", x.many(1), 256);
        due("price(3, 0)", x.price(3, 0), 1);
        due("price(3, 1)", x.price(3, 1), 513);
        due("price(0, 7)", x.price(0, 7), 576 - 64);
        due("again()", x.again(), 256 * (1 + 512));
    }
}
