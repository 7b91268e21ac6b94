/** Promises 38 to 42: seen, forget, fines, lags, heights. */
public final class SeenTest {
    public static void main(String[] args) {
        seen();
        fines();
        lags();
        heights();
        Check.finish("SeenTest");
    }

    private static void seen() {
        SkirtsByTheDay x = Check.told("5", "p50@0", "");
        Check.due("forget() of nothing", x.forget(), 0);
        Check.due("seen(1, 0, 0, 0)", x.seen(1, 0, 0, 0), -1);
        Check.due("seen(-1, 0, 0, 0)", x.seen(-1, 0, 0, 0), -1);
        Check.due("seen(0, 4, 0, 0)", x.seen(0, 4, 0, 0), -1);
        Check.due("seen(0, -1, 0, 0)", x.seen(0, -1, 0, 0), -1);
        Check.due("seen(0, 0, 10000, 0)", x.seen(0, 0, 10000, 0), -1);
        Check.due("seen(0, 0, -1, 0)", x.seen(0, 0, -1, 0), -1);
        Check.due("seen(0, 0, 0, 100)", x.seen(0, 0, 0, 100), -1);
        Check.due("seen(0, 0, 0, -1)", x.seen(0, 0, 0, -1), -1);
        for (int k = 1; k <= 12; k++) {
            Check.due("seen() " + k, x.seen(0, k % 4, 9999, 99), k);
        }
        Check.due("seen() 13", x.seen(0, 0, 0, 0), -1);
        Check.due("count(7)", x.count(7), 12);
        Check.due("forget()", x.forget(), 12);
        Check.due("count(7)", x.count(7), 0);
        Check.due("seen() anew", x.seen(0, 0, 0, 0), 1);
    }

    private static void fines() {
        SkirtsByTheDay x = Check.told("57", "p50@0;p40@0", "");
        x.seen(0, 0, 0, 25);
        x.seen(0, 0, 1, 30);
        x.seen(1, 0, 1, 30);
        x.seen(1, 3, 1, 0);
        x.seen(0, 0, 1, 35);
        Check.due("fines(0)", x.fines(0), 0);
        Check.row("fines(0)", x, 6);
        Check.due("fines(1)", x.fines(1), 6 + 3);
        Check.due("fines(99)", x.fines(99), 99 * 9);
        Check.row("fines(99)", x, 6);
        Check.text(x, "25").rule();
        Check.due("by the law that is now", x.fines(10), (6 + 6 + 11) * 10);
        Check.row("by the law that is now", x, 2 + 4 + 16);
        Check.due("fines(100)", x.fines(100), -1);
        Check.due("fines(-1)", x.fines(-1), -1);
        Check.row("they leave the row", x, 22);
        x.forget();
        x.seen(0, 0, 0, 24);
        Check.due("the first is off", x.fines(5), 10);
        Check.row("the first is off", x, 1);
        x.forget();
        Check.due("fines(9) of nothing", x.fines(9), 0);
        Check.row("fines(9) of nothing", x, 0);
    }

    private static void lags() {
        SkirtsByTheDay x = Check.told("0123456789", "p10@0;p20@0", "");
        Check.due("lags() of nothing", x.lags(), (1 << 27) - 1);
        x.seen(0, 0, 20, 3);
        Check.due("ahead by 3, 13; behind by 7", x.lags(), bit(-7) | bit(3) | bit(13));
        x.seen(1, 0, 23, 12);
        Check.due("both", x.lags(), bit(-7) | bit(3) | bit(13));
        x.seen(0, 0, 2, 5);
        Check.due("not of a week below 0", x.lags(), bit(3) | bit(13));
        x.seen(0, 0, 20, 4);
        Check.due("nothing explains both", x.lags(), 0);
        x.forget();
        x.seen(0, 3, 5, 0);
        Check.due("without an almanac", x.lags(), ((1 << 27) - 1) & ~((1 << 8) - 1));
        x.forget();
        x.seen(0, 0, 9999, 0);
        Check.due("beyond week 9999", x.lags(), bit(-9) | bit(1) | bit(11));
    }

    private static int bit(int lag) {
        return 1 << (lag + 13);
    }

    private static void explained(SkirtsByTheDay x, int person, int many, int least, int greatest) {
        Check.due("heights(" + person + ")", x.heights(person), many);
        Check.row("heights(" + person + ")", x, least, greatest);
    }

    private static void heights() {
        SkirtsByTheDay x = Check.told("57", "p50@0;p40@0", "");
        explained(x, 0, 99, 1, 99);
        x.seen(0, 0, 0, 25);
        explained(x, 0, 2, 50, 51);
        explained(x, 1, 99, 1, 99);
        x.seen(0, 0, 1, 35);
        explained(x, 0, 2, 50, 51);
        x.seen(1, 0, 1, 1);
        explained(x, 1, 1, 2, 2);
        explained(x, 0, 2, 50, 51);
        x.seen(0, 0, 1, 36);
        explained(x, 0, 0, -1, -1);
        Check.due("heights(2)", x.heights(2), -1);
        Check.due("heights(-1)", x.heights(-1), -1);
        Check.row("they leave the row", x, -1, -1);
        x.forget();
        Check.text(x, "(h>30)*(h<60)*7").rule();
        x.seen(1, 0, 0, 7);
        explained(x, 1, 29, 31, 59);
        x.seen(1, 3, 0, 0);
        explained(x, 1, 29, 31, 59);
        Check.due("its height is as it was", x.person(1, 0), 40);
        x.forget();
        Check.text(x, "h").rule();
        x.seen(0, 0, 0, 99);
        explained(x, 0, 1, 99, 99);
    }
}
