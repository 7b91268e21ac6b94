import java.util.Random;

/** Texts by chance: mostly right ones, some with a sign changed, put in, left out, or too long. */
final class Texts {
    private final Random random;

    Texts(Random random) {
        this.random = random;
    }

    private int under(int n) {
        return random.nextInt(n);
    }

    private String digits(int least, int most) {
        StringBuilder b = new StringBuilder();
        int n = least + under(most - least + 1);
        for (int k = 0; k < n; k++) {
            b.append(under(10));
        }
        return b.toString();
    }

    String almanacs() {
        int places = 1 + under(under(12) == 0 ? 6 : 4);
        StringBuilder b = new StringBuilder();
        for (int p = 0; p < places; p++) {
            b.append(p > 0 ? "/" : "").append(digits(1, under(6) == 0 ? 27 : 8));
        }
        return spoilt(b.toString());
    }

    String house() {
        int lines = 1 + under(under(4) == 0 ? 16 : 5);
        StringBuilder b = new StringBuilder();
        for (int k = 0; k < lines; k++) {
            b.append(k > 0 ? ";" : "").append(under(5) < 2 ? "p" + height() + "@" + under(4) : "c" + cloth());
        }
        return spoilt(b.toString());
    }

    private String height() {
        return under(40) == 0 ? "0" : String.valueOf(1 + under(99));
    }

    private String cloth() {
        return under(100) + (under(2) == 0 ? "+" + under(10) : "");
    }

    String rule() {
        return spoilt(under(3) == 0 ? lawLike() : expression(0));
    }

    /** Rules whose laws are seldom 0 or 99. */
    private String lawLike() {
        String[] some = {"h*l/20+w", "l*5+p*10+i", "(h>40)*l*4+20", "40+l-w", "l*l", "h-l*3", "l+10", "l/2*8", "50-l*-2"};
        return some[under(some.length)];
    }

    private String expression(int depth) {
        String sum = sum(depth);
        return under(5) == 0 ? sum + "<>=".charAt(under(3)) + sum(depth) : sum;
    }

    private String sum(int depth) {
        StringBuilder b = new StringBuilder(product(depth));
        for (int k = under(3); k > 0; k--) {
            b.append("+-".charAt(under(2))).append(product(depth));
        }
        return b.toString();
    }

    private String product(int depth) {
        StringBuilder b = new StringBuilder(thing(depth));
        for (int k = under(3); k > 1; k--) {
            b.append("*/".charAt(under(2))).append(thing(depth));
        }
        return b.toString();
    }

    private String thing(int depth) {
        String minus = "-".repeat(under(6) == 0 ? 1 + under(3) : 0);
        int kind = under(8);
        if (kind == 0 && depth < 6) {
            return minus + "(" + expression(depth + 1) + ")";
        }
        return minus + (kind < 4 ? digits(1, 3) : String.valueOf("hlwpi".charAt(under(5))));
    }

    String year() {
        int acts = 1 + under(under(5) == 0 ? 32 : 5);
        StringBuilder b = new StringBuilder();
        for (int k = 0; k < acts; k++) {
            b.append(k > 0 ? ";" : "").append(act());
        }
        return spoilt(b.toString());
    }

    private String act() {
        switch (under(5)) {
            case 0:
                return "w" + under(4) + (under(4) == 0 ? "-" : String.valueOf(under(6)));
            case 1:
                return "g" + under(4) + under(4);
            case 2:
                return "m" + under(5) + "=" + under(100);
            default:
                return "k" + (under(3) == 0 ? String.valueOf(1 + under(9)) : "");
        }
    }

    String way() {
        StringBuilder b = new StringBuilder();
        int n = under(30) == 0 ? 27 : 1 + under(26);
        int places = 1 + under(4);
        for (int k = 0; k < n; k++) {
            b.append(under(places));
        }
        return spoilt(b.toString());
    }

    private String spoilt(String text) {
        StringBuilder b = new StringBuilder(text);
        String signs = "0123456789;/@+-*<>=()pchlwikgm x" + (char) 0 + (char) 255;
        for (int k = under(6) == 0 ? 1 + under(2) : 0; k > 0; k--) {
            int at = under(b.length() + 1);
            int how = under(4);
            if (how == 0) {
                b.insert(at, signs.charAt(under(signs.length())));
            } else if (how == 1 && at < b.length()) {
                b.setCharAt(at, signs.charAt(under(signs.length())));
            } else if (how == 2 && at < b.length()) {
                b.deleteCharAt(at);
            } else if (how == 3) {
                b.setLength(at);
            }
        }
        return b.length() > 80 ? b.substring(0, 80) : b.toString();
    }
}
