import java.util.LinkedHashMap;
import java.util.Map;
import java.util.function.Supplier;

/**
 * Whatever is asked in whatever state, only trier() throws: what the document names, where it says, and
 * by a throw statement, not because the machine found an index wrong.
 */
public final class ThrowsTest extends Checks {
    private static final int[] NUMBERS = {Integer.MIN_VALUE, Integer.MIN_VALUE + 1, -65536, -301, -300, -2, -1,
        0, 1, 2, 3, 4, 5, 6, 7, 8, 9, 11, 12, 13, 19, 20, 31, 32, 39, 40, 41, 255, 256, 257, 258, 259, 273, 274,
        295, 296, 298, 299, 300, 301, 302, 511, 512, 10000, 10001, 65536, 100000, 100001, 1 << 30,
        Integer.MAX_VALUE - 300, Integer.MAX_VALUE - 1, Integer.MAX_VALUE};

    private interface Call {
        void on(BestParses x, int a, int b, int c);
    }

    public static void main(String[] args) {
        for (int form = 0; form <= 2; form++) {
            for (Map.Entry<String, Supplier<BestParses>> state : states(form).entrySet()) {
                part = "form " + form + ", " + state.getKey();
                everyCall(state.getValue());
                trierIn(state.getValue().get());
            }
        }
        everyForm();
        finish();
    }

    private static Map<String, Supplier<BestParses>> states(int form) {
        Map<String, Supplier<BestParses>> states = new LinkedHashMap<>();
        states.put("new", () -> new BestParses(form));
        states.put("one octet", () -> with(form, "\u00ff"));
        states.put("full, not parsed", () -> with(form, same('a', 300)));
        states.put("296 octets, parsed", () -> parsed(with(form, same('a', 296)), 0));
        states.put("all different, lazy", () -> parsed(with(form, different(300)), 2));
        states.put("empty, parsed", () -> parsed(new BestParses(form), 3));
        states.put("mixed, best", () -> parsed(with(form, mixed()), 3));
        states.put("one kept, dearest, rounds", () -> dearest(form));
        states.put("cut and split", () -> divided(form));
        states.put("cleared", () -> {
            BestParses x = divided(form);
            x.parse(3);
            x.clear();
            return x;
        });
        return states;
    }

    private static BestParses parsed(BestParses x, int how) {
        x.parse(how);
        return x;
    }

    private static String mixed() {
        StringBuilder all = new StringBuilder();
        int v = 7;
        for (int i = 0; i < 300; i++) {
            v = (v * 73 + 41) % 1009;
            all.append((char) ('a' + v % 3));
        }
        return all.toString();
    }

    private static BestParses dearest(int form) {
        BestParses x = with(form, mixed());
        x.keep(1);
        int[] symbols = {256, 32, 20, 7};
        for (int kind = 0; kind < 4; kind++) {
            for (int symbol = 0; symbol < symbols[kind]; symbol++) {
                x.cost(kind, symbol, 10000);
            }
        }
        x.parse(3);
        x.rounds(2);
        return x;
    }

    private static BestParses divided(int form) {
        BestParses x = with(form, mixed());
        for (int i = 1; i <= 12; i++) {
            x.cut(23 * i);
        }
        x.split(0);
        return x;
    }

    private static void everyCall(Supplier<BestParses> state) {
        calls1(state, "octets", (x, a, b, c) -> x.octets(a, 0x8001ff00807f0102L));
        calls3(state, "cost", (x, a, b, c) -> x.cost(a, b, c));
        calls2(state, "price", (x, a, b, c) -> x.price(a, b));
        calls1(state, "keep", (x, a, b, c) -> x.keep(a));
        calls1(state, "parse", (x, a, b, c) -> x.parse(a));
        calls2(state, "step", (x, a, b, c) -> x.step(a, b));
        calls1(state, "sum", (x, a, b, c) -> x.sum());
        calls1(state, "again", (x, a, b, c) -> x.again());
        calls1(state, "least", (x, a, b, c) -> x.least());
        calls1(state, "told", (x, a, b, c) -> x.told(a));
        calls1(state, "rounds", (x, a, b, c) -> x.rounds(a));
        calls1(state, "longest", (x, a, b, c) -> x.longest(a));
        calls2(state, "distance", (x, a, b, c) -> x.distance(a, b));
        calls1(state, "cut", (x, a, b, c) -> x.cut(a));
        calls1(state, "split", (x, a, b, c) -> x.split(a));
        calls1(state, "taken", (x, a, b, c) -> x.taken(a));
        calls1(state, "many", (x, a, b, c) -> x.many(a));
        calls1(state, "clear", (x, a, b, c) -> x.clear());
    }

    private static void calls1(Supplier<BestParses> state, String name, Call call) {
        BestParses x = state.get();
        for (int a : NUMBERS) {
            dueNothing(name, call, x, a, 0, 0);
        }
    }

    private static void calls2(Supplier<BestParses> state, String name, Call call) {
        BestParses x = state.get();
        for (int a : NUMBERS) {
            for (int b : NUMBERS) {
                dueNothing(name, call, x, a, b, 0);
            }
        }
    }

    private static void calls3(Supplier<BestParses> state, String name, Call call) {
        BestParses x = state.get();
        for (int a : NUMBERS) {
            for (int b : NUMBERS) {
                for (int c : NUMBERS) {
                    dueNothing(name, call, x, a, b, c);
                }
            }
        }
    }

    private static void dueNothing(String name, Call call, BestParses x, int a, int b, int c) {
        String thrown = "nothing";
        try {
            call.on(x, a, b, c);
        } catch (Throwable e) {
            thrown = e.toString();
        }
        due("what " + name + " of " + a + ", " + b + ", " + c + " throws", thrown, "nothing");
    }

    private static void trierIn(BestParses x) {
        for (int i : NUMBERS) {
            boolean there = i >= 0 && i < x.many(0);
            due("what trier(" + i + ") throws", thrownByTrier(x, i), there ? "nothing" : "what is due");
        }
    }

    private static String thrownByTrier(BestParses x, int i) {
        try {
            int octet = x.trier(i);
            return octet >= 0 && octet <= 255 ? "nothing" : "answered " + octet;
        } catch (Throwable e) {
            // The machine tells the index, or, when it has thrown often, nothing.
            boolean byStatement = e.getMessage() != null && !e.getMessage().startsWith("Index ");
            return e.getClass() == ArrayIndexOutOfBoundsException.class && byStatement
                    ? "what is due" : e.toString();
        }
    }

    private static void everyForm() {
        part = "forms";
        for (int form : NUMBERS) {
            dueNothing("the constructor", (x, a, b, c) -> new BestParses(a), null, form, 0, 0);
        }
    }
}
