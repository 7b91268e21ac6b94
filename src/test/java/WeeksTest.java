/** Promises 13 to 19: wear, go, make, week, weeks, year, undo. */
public final class WeeksTest {
    private static final String HOUSE = "p50@0;p40@1;c25+2;c30;c10+3";

    public static void main(String[] args) {
        wear();
        go();
        make();
        makeByPrices();
        week();
        weeks();
        year();
        yearTillOneCannotBe();
        wrongYears();
        longYears();
        undo();
        undoOfOthers();
        undoTwelve();
        undoForgotten();
        undoAsOne();
        fullBox();
        Check.finish("WeeksTest");
    }

    private static SkirtsByTheDay family() {
        return Check.told("5796/55", HOUSE, "");
    }

    private static void wear() {
        SkirtsByTheDay x = family();
        Check.due("wear(0, 0)", x.wear(0, 0), -1);
        Check.due("wear(0, 0) again", x.wear(0, 0), 0);
        Check.due("wear(1, 0)", x.wear(1, 0), -2);
        Check.due("wear(0, 2)", x.wear(0, 2), 0);
        Check.due("wear(1, 0) now", x.wear(1, 0), -1);
        Check.due("wear(1, NONE)", x.wear(1, -1), 0);
        Check.due("wear(1, NONE) again", x.wear(1, -1), -1);
        Check.due("who wears 0", x.cloth(0, 4), -1);
        Check.due("wear(1, 3)", x.wear(1, 3), -3);
        Check.due("wear(1, -2)", x.wear(1, -2), -3);
        Check.due("wear(2, 2)", x.wear(2, 2), -3);
        Check.due("wear(-1, 0)", x.wear(-1, 0), -3);
        Check.due("wear(2, NONE)", x.wear(2, -1), -3);
        Check.due("done ones can be undone", x.count(9), 6);
    }

    private static void go() {
        SkirtsByTheDay x = family();
        Check.due("go(0, 3)", x.go(0, 3), 0);
        Check.due("where it is", x.person(0, 1), 3);
        Check.due("go(0, 3) again", x.go(0, 3), 3);
        Check.due("go(1, 0)", x.go(1, 0), 1);
        Check.due("go(0, 4)", x.go(0, 4), -1);
        Check.due("go(0, -1)", x.go(0, -1), -1);
        Check.due("go(2, 0)", x.go(2, 0), -1);
        Check.due("go(-1, 0)", x.go(-1, 0), -1);
        Check.due("done ones can be undone", x.count(9), 3);
    }

    private static void made(SkirtsByTheDay x, int v, int cost, int bought, int sewing, int off) {
        Check.due("make(0, " + v + ")", x.make(0, v), cost);
        Check.row("make(0, " + v + ")", x, bought, sewing, off);
        Check.due("its length", x.cloth(0, 0), v);
    }

    private static void make() {
        SkirtsByTheDay x = Check.told("", "c20+2", "");
        made(x, 20, 0, 0, 0, 0);
        Check.due("its hem stays", x.cloth(0, 1), 2);
        made(x, 22, 1, 0, 1, 0);
        Check.due("let out", x.cloth(0, 1), 0);
        made(x, 19, 1, 0, 1, 0);
        Check.due("taken in as far as can be", x.cloth(0, 1), 3);
        made(x, 18, 2, 0, 2, 1);
        Check.due("cut: the most hem", x.cloth(0, 1), 3);
        Check.due("what fell off", x.piece(0), 1);
        made(x, 22, 5, 1, 3, 0);
        Check.due("joined: no hem", x.cloth(0, 1), 0);
        Check.due("joined: a seam", x.cloth(0, 3), 1);
        made(x, 0, 2, 0, 2, 19);
        Check.due("all of it", x.cloth(0, 2), 3);
        Check.due("the second piece", x.piece(1), 19);
        made(x, 99, 96 * 2 + 3, 96, 3, 0);
        Check.due("the purse", x.count(6), -(1 + 1 + 2 + 5 + 2 + 195));
        Check.due("make(0, 100)", x.make(0, 100), -1);
        Check.due("make(0, -1)", x.make(0, -1), -1);
        Check.due("make(1, 5)", x.make(1, 5), -1);
        Check.due("make(-1, 5)", x.make(-1, 5), -1);
        Check.row("refused calls leave the row", x, 96, 3, 0);
    }

    private static void makeByPrices() {
        SkirtsByTheDay x = Check.told("", "c20+9", "");
        made(x, 20, 0, 0, 0, 0);
        Check.due("a hem beyond the most stays if it is as long", x.cloth(0, 1), 9);
        x.set(0, 0);
        x.set(1, 9);
        x.set(2, 4);
        made(x, 29, 4, 0, 1, 0);
        made(x, 28, 8, 0, 2, 1);
        made(x, 30, 2 * 9 + 3 * 4, 2, 3, 0);
        x.set(1, 0);
        x.set(2, 0);
        made(x, 40, 0, 10, 3, 0);
    }

    private static void week() {
        SkirtsByTheDay x = family();
        x.wear(0, 1);
        x.wear(1, 2);
        Check.due("week()", x.week(), 2 + 3 + 7 * 2);
        Check.row("week()", x, 7, 5, 2);
        Check.due("NOW", x.count(3), 1);
        Check.due("cloth 1 is as long as the law was", x.cloth(1, 0), 25);
        Check.due("cloth 2 too", x.cloth(2, 0), 20);
        Check.due("cloth 0 is as it was", x.cloth(0, 0), 25);
        Check.due("the purse", x.count(6), -19);
        Check.due("the box", x.piece(0), 2);
        x.wear(1, -1);
        Check.due("week() of one", x.week(), 7 * 2 + 3);
        Check.row("week() of one", x, 7, 3, 0);
        Check.due("the other's cloth stays", x.cloth(2, 0), 20);
        SkirtsByTheDay nobody = new SkirtsByTheDay();
        Check.due("a week of nobody", nobody.week(), 0);
        Check.row("a week of nobody", nobody, 0, 0, 0);
        Check.due("NOW", nobody.count(3), 1);
    }

    private static void weeks() {
        SkirtsByTheDay one = family();
        SkirtsByTheDay other = family();
        one.wear(0, 0);
        other.wear(0, 0);
        int cost = 0;
        int bought = 0;
        for (int k = 0; k < 60; k++) {
            cost += one.week();
            bought += one.row(0);
        }
        Check.due("weeks(60)", other.weeks(60), cost);
        Check.due("inches bought in 60 weeks", other.row(0), bought);
        Check.due("NOW", other.count(3), 60);
        Check.due("the purse", other.count(6), one.count(6));
        Check.due("weeks(0)", other.weeks(0), 0);
        Check.row("weeks(0)", other, 0, 0, 0);
        Check.due("weeks(0) can't be undone", other.count(9), 2);
        Check.due("weeks(61)", other.weeks(61), -1);
        Check.due("weeks(-1)", other.weeks(-1), -1);
        Check.due("NOW still", other.count(3), 60);
        Check.due("undo() of 60 weeks as one", other.undo(), 1);
        Check.due("NOW again", other.count(3), 0);
    }

    private static void year() {
        SkirtsByTheDay x = family();
        Check.due("an empty year", Check.text(x, "").year(), 0);
        Check.row("an empty year", x, 0, 0);
        Check.due("it can't be undone", x.count(9), 0);
        Check.due("a year", Check.text(x, "w00;k;g13;m2=5;w1-;k3").year(), 6);
        Check.row("a year", x, 0, 2 + (8 + 10) * 2 + 3 + 3 + 2);
        Check.due("THE TEXT is empty then", x.count(11), 0);
        Check.due("NOW", x.count(3), 4);
        Check.due("the purse", x.count(6), -46);
        Check.due("who wears 0", x.cloth(0, 4), 0);
        Check.due("where 1 is", x.person(1, 1), 3);
        Check.due("cloth 2", x.cloth(2, 0), 5);
        Check.due("cloth 0", x.cloth(0, 0), 30);
        Check.due("a year that costs nothing behind one that does", Check.text(x, "g00").year(), 1);
        Check.row("it costs nothing", x, 0, 0);
        Check.due("k9", Check.text(x, "k9").year(), 1);
        Check.due("NOW", x.count(3), 13);
        Check.due("a digit too many for weeks", Check.text(x, "k10").year(), -3);
    }

    private static void yearTillOneCannotBe() {
        SkirtsByTheDay x = family();
        stopped(x, "w00;w10;k", 1);
        stopped(x, "k;w13;k", 1);
        stopped(x, "w20", 0);
        stopped(x, "w9-", 0);
        stopped(x, "k;k;g20", 2);
        stopped(x, "m3=5", 0);
        stopped(x, "k;m9=99;k", 1);
        Check.due("the acts ahead were done", x.count(3), 1 + 2 + 1);
        Check.due("each year of one act and more can be undone", x.count(9), 4);
    }

    private static void stopped(SkirtsByTheDay x, String signs, int done) {
        Check.due("year() of " + signs, Check.text(x, signs).year(), done);
        Check.due("one could not be done of " + signs, x.row(0), 1);
    }

    private static void wrongYears() {
        SkirtsByTheDay x = family();
        x.make(0, 26);
        wrongYear(x, ";", 0);
        wrongYear(x, "x", 0);
        wrongYear(x, "k0", 1);
        wrongYear(x, "k12", 2);
        wrongYear(x, "k;", 2);
        wrongYear(x, "k;;k", 2);
        wrongYear(x, "w", 1);
        wrongYear(x, "w-", 1);
        wrongYear(x, "w0", 2);
        wrongYear(x, "w0;", 2);
        wrongYear(x, "w0--", 3);
        wrongYear(x, "w011", 3);
        wrongYear(x, "g", 1);
        wrongYear(x, "g0", 2);
        wrongYear(x, "g04", 2);
        wrongYear(x, "g0-", 2);
        wrongYear(x, "m", 1);
        wrongYear(x, "m0", 2);
        wrongYear(x, "m05", 2);
        wrongYear(x, "m0=", 3);
        wrongYear(x, "m0=;", 3);
        wrongYear(x, "m0=123", 5);
        wrongYear(x, "k5;m0=12;w0a", 11);
        Check.due("nothing is done then", x.count(3), 0);
        Check.row("the row stays", x, 0, 1, 0);
        Check.due("and what can be undone", x.count(9), 1);
    }

    private static void wrongYear(SkirtsByTheDay x, String signs, int at) {
        Check.due("year() of " + signs, Check.text(x, signs).year(), -1 - at);
        Check.due("the text after a wrong year", x.count(11), 0);
    }

    private static void longYears() {
        SkirtsByTheDay x = family();
        wrongYear(x, Check.times("k;", 30), 60);
        wrongYear(x, Check.times("k;", 30) + "k", 60);
        wrongYear(x, Check.times("k1;", 20) + "k", 60);
        wrongYear(x, Check.times("k1;", 19) + "k;kk", 60);
        wrongYear(x, Check.times("k;", 29) + "k1;", 60);
        wrongYear(x, Check.times("k;", 29) + "k11111", 60);
        wrongYear(x, Check.times("k;", 28) + "k00" + "k;k;k;", 57);
        Check.due("30 acts in 60 signs", Check.text(x, Check.times("k;", 29) + "k2").year(), 30);
        Check.due("NOW", x.count(3), 31);
    }

    private static void undo() {
        SkirtsByTheDay x = family();
        Check.due("undo() of nothing", x.undo(), -1);
        x.wear(0, 0);
        x.go(0, 1);
        x.make(2, 0);
        x.week();
        x.weeks(3);
        Check.text(x, "k2").year();
        x.sell(0, 5);
        x.make(1, 2);
        x.quilt(5);
        Check.due("undo() of quilt()", x.undo(), 8);
        Check.due("pieces", x.count(4), 1);
        Check.due("undo() of make()", x.undo(), 7);
        Check.due("length", x.cloth(1, 0), 30);
        Check.due("pieces", x.count(4), 0);
        Check.due("undo() of sell()", x.undo(), 6);
        Check.due("the piece is back", x.piece(0), 10);
        int purse = x.count(6);
        Check.due("undo() of year()", x.undo(), 5);
        Check.due("NOW", x.count(3), 4);
        Check.due("undo() of weeks()", x.undo(), 4);
        Check.due("NOW", x.count(3), 1);
        Check.due("undo() of week()", x.undo(), 3);
        Check.due("NOW", x.count(3), 0);
        Check.due("undo() of make()", x.undo(), 2);
        Check.due("cloth 2's all", x.cloth(2, 2), 13);
        Check.due("the purse", x.count(6), 0);
        Check.due("it had paid", purse < 0, true);
        Check.due("undo() of go()", x.undo(), 1);
        Check.due("where 0 is", x.person(0, 1), 0);
        Check.due("undo() of wear()", x.undo(), 0);
        Check.due("what 0 wears", x.person(0, 2), -1);
        Check.due("undo() of nothing again", x.undo(), -1);
    }

    private static void undoOfOthers() {
        SkirtsByTheDay x = family();
        x.go(0, 2);
        x.make(0, 40);
        x.make(0, 50);
        x.go(0, 3);
        x.make(0, 60);
        Check.due("seams", x.cloth(0, 3), 3);
        x.undo();
        Check.due("seams are as they were", x.cloth(0, 3), 2);
        Check.due("the place is not", x.person(0, 1), 3);
        x.undo();
        Check.due("the place is as it was", x.person(0, 1), 2);
        Check.due("the other's stays", x.person(1, 1), 1);
    }

    private static void undoTwelve() {
        SkirtsByTheDay x = family();
        for (int k = 0; k < 14; k++) {
            x.week();
        }
        Check.due("12 are kept", x.count(9), 12);
        for (int left = 11; left >= 0; left--) {
            Check.due("undo()", x.undo(), left);
            Check.due("NOW", x.count(3), left + 2);
        }
        Check.due("the first two can't be undone", x.undo(), -1);
        x.week();
        Check.due("one more", x.undo(), 0);
        Check.due("NOW", x.count(3), 2);
    }

    private static void undoForgotten() {
        SkirtsByTheDay x = family();
        x.week();
        Check.due("a refused house()", Check.text(x, "c1;").house(), -4);
        Check.text(x, "").house();
        Check.due("it and an empty one forget nothing", x.count(9), 1);
        x.again(0);
        Check.due("a refused again() does not", x.count(9), 1);
        Check.text(x, "5").almanac();
        Check.text(x, "9").rule();
        x.set(0, 5);
        x.keep(0);
        x.draw(1, 0, 5);
        x.ahead(5);
        Check.due("nor others", x.count(9), 1);
        x.again(0);
        Check.due("again() does", x.count(9), 0);
        x.week();
        Check.text(x, "c1").house();
        Check.due("house() does", x.undo(), -1);
        x.make(0, 50);
        x.sheet(2, 8, 7, 0);
        x.set(0, 1);
        x.undo();
        Check.due("a sheet behind it is undone with it", x.cloth(0, 0), 25);
        Check.due("but not what was set", x.set(0, 2), 1);
    }

    private static void undoAsOne() {
        SkirtsByTheDay x = family();
        for (int k = 0; k < 12; k++) {
            x.week();
        }
        Check.due("a year of nothing", Check.text(x, "w70;k").year(), 0);
        x.weeks(0);
        x.ahead(9);
        x.wear(0, 9);
        x.go(9, 0);
        x.make(0, 100);
        x.sell(0, 1);
        x.quilt(1);
        Check.due("what is not done pushes out nothing", x.count(9), 12);
        for (int k = 0; k < 12; k++) {
            x.undo();
        }
        Check.due("NOW", x.count(3), 0);
    }

    private static void fullBox() {
        SkirtsByTheDay x = Check.told("", "c99", "");
        x.set(0, 0);
        for (int k = 1; k <= 25; k++) {
            Check.due("make() " + k, x.make(0, 99 - k), 2);
            Check.row("make() " + k, x, 0, 2, 1);
        }
        Check.due("20 pieces, the rest is lost", x.count(4), 20);
        Check.due("the 20th", x.piece(19), 1);
        Check.none("the 21st", () -> x.piece(20));
        x.sell(3, 0);
        x.make(0, 70);
        Check.due("room for one", x.piece(19), 4);
    }
}
