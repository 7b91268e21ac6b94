/** Promises 48 to 52: draw, keep, again, count, row. */
public final class KeptTest {
    public static void main(String[] args) {
        draw();
        drawnPlaces();
        keep();
        again();
        againRefused();
        count();
        row();
        Check.finish("KeptTest");
    }

    private static void draw() {
        SkirtsByTheDay x = new SkirtsByTheDay();
        int[] seeds = {0, 1, -1, 77, Integer.MIN_VALUE, Integer.MAX_VALUE};
        for (int seed : seeds) {
            Check.due("draw(" + seed + ", 0, 26)", x.draw(seed, 0, 26), 1);
            long r = seed;
            for (int w = 0; w < 26; w++) {
                r = r * 1103515245L + 12345L & 0xFFFFFFFFL;
                Check.due("light of seed " + seed + " in week " + w, x.light(0, w), r / 65536 % 10);
            }
            Check.due("week 26 is as week 0", x.light(0, 26), x.light(0, 0));
        }
        x.draw(0, 0, 3);
        Check.due("3 weeks", x.light(0, 3), x.light(0, 0));
        Check.due("12345 by 65536", x.light(0, 0), 0);
    }

    private static void drawnPlaces() {
        SkirtsByTheDay x = Check.told("5/6", "p50@0", "");
        Check.due("draw(1, 3, 5)", x.draw(1, 3, 5), -1);
        Check.due("draw(1, -1, 5)", x.draw(1, -1, 5), -1);
        Check.due("draw(1, 0, 0)", x.draw(1, 0, 0), -1);
        Check.due("draw(1, 0, 27)", x.draw(1, 0, 27), -1);
        Check.due("they change nothing", x.count(0) * 100 + x.light(0, 0) * 10 + x.light(1, 0), 256);
        Check.due("draw(1, 0, 1)", x.draw(1, 0, 1), 2);
        Check.due("the other stays", x.light(1, 7), 6);
        Check.due("draw(1, 2, 5)", x.draw(1, 2, 5), 3);
        Check.due("draw(1, 3, 5)", x.draw(1, 3, 5), 4);
        Check.due("draw(1, 4, 5)", x.draw(1, 4, 5), -1);
        Check.due("count(0)", x.count(0), 4);
        Check.text(x, "7").almanac();
        Check.due("drawn ones are gone when told anew", x.count(0), 1);
        Check.due("the next one is 1", x.draw(5, 1, 2), 2);
    }

    private static SkirtsByTheDay busy() {
        SkirtsByTheDay x = Check.told("5796", "p50@0;p40@0;c25+2;c50+9", "");
        x.wear(0, 0);
        x.wear(1, 1);
        x.week();
        return x;
    }

    private static void keep() {
        SkirtsByTheDay x = busy();
        Check.due("keep(2)", x.keep(2), false);
        Check.due("keep(-1)", x.keep(-1), false);
        Check.due("keep(0)", x.keep(0), true);
        Check.due("keep() can't be undone", x.count(9), 3);
        x.week();
        Check.due("keep(1)", x.keep(1), true);
        x.week();
        Check.due("again(0)", x.again(0), true);
        Check.due("NOW", x.count(3), 1);
        Check.due("again(1)", x.again(1), true);
        Check.due("NOW", x.count(3), 2);
        Check.due("keep(0) anew", x.keep(0), true);
        x.week();
        x.again(0);
        Check.due("NOW", x.count(3), 2);
    }

    private static void again() {
        SkirtsByTheDay x = busy();
        x.keep(1);
        int purse = x.count(6);
        x.weeks(7);
        x.wear(0, -1);
        x.go(1, 3);
        x.sell(0, 9);
        x.make(0, 99);
        x.set(0, 7);
        Check.due("again(1)", x.again(1), true);
        Check.due("NOW", x.count(3), 1);
        Check.due("who wears what", x.person(0, 2), 0);
        Check.due("who is where", x.person(1, 1), 0);
        Check.due("length", x.cloth(0, 0), 25);
        Check.due("hem", x.cloth(0, 1), 2);
        Check.due("seams", x.cloth(0, 3), 0);
        Check.due("the other's length", x.cloth(1, 0), 20);
        Check.due("the box", x.count(4) * 100 + x.piece(0), 136);
        Check.due("the purse", x.count(6), purse);
        Check.due("what was set stays", x.set(0, 3), 7);
        Check.due("nothing can be undone", x.undo(), -1);
        x.week();
        Check.due("again(1) twice", x.again(1), true);
        Check.due("NOW", x.count(3), 1);
    }

    private static void againRefused() {
        SkirtsByTheDay x = busy();
        Check.due("again(0) of nothing", x.again(0), false);
        Check.due("again(2)", x.again(2), false);
        Check.due("again(-1)", x.again(-1), false);
        x.keep(0);
        Check.due("again(1) of nothing", x.again(1), false);
        Check.text(x, "").house();
        Check.text(x, "x").house();
        Check.due("nobody came", x.again(0), true);
        Check.text(x, "c5").house();
        x.week();
        Check.due("a cloth came", x.again(0), false);
        Check.due("it changes nothing", x.count(3), 2);
        Check.due("nor what can be undone", x.count(9), 1);
        x.keep(0);
        Check.text(x, "p5@0").house();
        Check.due("one of people came", x.again(0), false);
        x.keep(0);
        Check.due("kept anew", x.again(0), true);
        SkirtsByTheDay empty = new SkirtsByTheDay();
        empty.keep(0);
        empty.week();
        Check.due("an empty house", empty.again(0), true);
        Check.due("NOW", empty.count(3), 0);
    }

    private static void count() {
        SkirtsByTheDay x = busy();
        x.seen(0, 0, 0, 0);
        x.job(1, 1);
        x.job(1, 2);
        x.sign(0);
        int[] want = {1, 2, 2, 1, 1, 36, -2, 1, 2, 3, 3, 4};
        for (int what = 0; what < want.length; what++) {
            Check.due("count(" + what + ")", x.count(what), want[what]);
        }
        Check.due("count(12)", x.count(12), -100000);
        Check.due("count(-1)", x.count(-1), -100000);
    }

    private static void row() {
        SkirtsByTheDay x = busy();
        Check.row("week()", x, 0, 2, 36);
        Check.none("row(3)", () -> x.row(3));
        Check.none("row(-1)", () -> x.row(-1));
        x.wear(0, -1);
        x.go(0, 1);
        x.keep(0);
        x.again(0);
        x.undo();
        x.lags();
        x.same(3);
        x.draw(1, 0, 3);
        x.sheet(0, 2, 5, 5);
        Check.row("calls that say nothing of it leave it", x, 0, 2, 36);
        x.dress(0);
        Check.row("an empty one", x);
        Check.none("row(0) of an empty one", () -> x.row(0));
    }
}
