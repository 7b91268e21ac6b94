import java.util.NoSuchElementException;

/** What the tests share: answers compared with those that are due, texts told sign by sign. */
final class Check {
    private static int wrong = 0;

    private Check() {
    }

    static void due(String call, long got, long want) {
        if (got != want) {
            wrong++;
            System.out.println(call + " answered " + got + ", due is " + want);
        }
    }

    static void due(String call, boolean got, boolean want) {
        due(call, got ? 1 : 0, want ? 1 : 0);
    }

    /** The ROW has these numbers and no others. */
    static void row(String call, SkirtsByTheDay x, int... want) {
        due(call + ", numbers of the ROW", x.count(10), want.length);
        for (int i = 0; i < want.length && i < x.count(10); i++) {
            due(call + ", row(" + i + ")", x.row(i), want[i]);
        }
    }

    /** A call of what throws NoSuchElementException if there is none such. */
    interface Call {
        int answer();
    }

    static void none(String call, Call made) {
        try {
            int got = made.answer();
            wrong++;
            System.out.println(call + " answered " + got + ", due is NoSuchElementException");
        } catch (NoSuchElementException due) {
            return;
        }
    }

    /** THE TEXT is this one, whatever it was. */
    static SkirtsByTheDay text(SkirtsByTheDay x, String signs) {
        x.end(0);
        for (int at = 0; at < signs.length(); at += 4) {
            int v = 0;
            for (int k = at; k < at + 4; k++) {
                v = v << 8 | (k < signs.length() ? signs.charAt(k) : 0);
            }
            x.sign(v);
        }
        if (!x.end(signs.length())) {
            wrong++;
            System.out.println("the text could not be told: " + signs);
        }
        return x;
    }

    static SkirtsByTheDay told(String almanacs, String house, String rule) {
        SkirtsByTheDay x = new SkirtsByTheDay();
        if (!almanacs.isEmpty()) {
            due("almanac() of " + almanacs, text(x, almanacs).almanac() > 0, true);
        }
        due("house() of " + house, text(x, house).house() >= 0, true);
        due("rule() of " + rule, text(x, rule).rule(), 0);
        return x;
    }

    static String times(String part, int n) {
        return part.repeat(n);
    }

    static void finish(String test) {
        System.out.println(test + ": " + (wrong == 0 ? "all as due" : wrong + " answers are not as due"));
        if (wrong != 0) {
            System.exit(1);
        }
    }
}
