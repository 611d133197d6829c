import java.util.Arrays;

/** What tests by hand share: answers that are due, and texts. */
abstract class Checks {
    private static int wrong;
    private static int asked;
    static String part = "";

    static void due(String call, long got, long want) {
        asked++;
        if (got != want) {
            say(call + " answered " + got + ", due is " + want);
        }
    }

    static void due(String call, boolean got, boolean want) {
        due(call, got ? 1 : 0, want ? 1 : 0);
    }

    static void due(String what, String got, String want) {
        asked++;
        if (!got.equals(want)) {
            say(what + " is " + got + ", due is " + want);
        }
    }

    static void say(String fault) {
        wrong++;
        System.out.println(part + ": " + fault);
    }

    /** A test of one sentence of the document; whatever it throws is a fault too. */
    static void sentence(String words, Runnable test) {
        part = words;
        int before = asked;
        try {
            test.run();
        } catch (RuntimeException e) {
            say("threw " + e);
        }
        if (asked == before) {
            say("asked nothing");
        }
    }

    /** The last thing that a test's main does. */
    static void finish() {
        System.out.println(asked + " answers, " + wrong + " wrong");
        if (wrong != 0) {
            System.exit(1);
        }
    }

    /** Steps as texts: place, length, distance, which it is. */
    static void dueSteps(BestParses x, String... want) {
        due("many(1)", x.many(1), want.length);
        for (int i = 0; i < want.length; i++) {
            due("step " + i, stepOf(x, i), want[i]);
        }
    }

    static String stepOf(BestParses x, int i) {
        return x.step(i, 0) + " " + x.step(i, 1) + " " + x.step(i, 2) + " " + x.step(i, 3);
    }

    static BestParses with(int form, String text) {
        BestParses x = new BestParses(form);
        add(x, text);
        return x;
    }

    static void add(BestParses x, String text) {
        for (int i = 0; i < text.length(); i++) {
            x.octets(1, text.charAt(i));
        }
    }

    static String[] literals(int n, String... then) {
        String[] all = new String[n + then.length];
        for (int i = 0; i < n; i++) {
            all[i] = i + " 1 0 0";
        }
        System.arraycopy(then, 0, all, n, then.length);
        return all;
    }

    static String same(char c, int n) {
        char[] all = new char[n];
        Arrays.fill(all, c);
        return new String(all);
    }

    /** Up and down again: no two octets in a row come twice in the same order. */
    static String different(int n) {
        StringBuilder all = new StringBuilder();
        for (int i = 0; i < n; i++) {
            all.append((char) (i < 256 ? i : 511 - i));
        }
        return all.toString();
    }

    static boolean throwsOf(BestParses x, int i) {
        try {
            x.trier(i);
            return false;
        } catch (ArrayIndexOutOfBoundsException e) {
            return true;
        }
    }
}
