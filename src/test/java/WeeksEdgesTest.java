/** The edges of promises 13 to 23, and of what 'Terms' tells of sewing, THE BOX, THE PURSE and WEEKS. */
public final class WeeksEdgesTest {
    private static final int MIN = Integer.MIN_VALUE;
    private static final int MAX = Integer.MAX_VALUE;
    private static final Twins BUSY = new Twins(Twins::busy);
    private static final Twins FULL = new Twins(Twins::full);
    private static final Twins FULL_BOX = new Twins(Twins::fullBox);

    public static void main(String[] args) {
        wear();
        wornByAnother();
        go();
        madeAsLongAsItIs();
        madeByLettingOut();
        madeByCutting();
        madeByJoining();
        makeRefused();
        fullBox();
        fullBoxInAWeek();
        purseBelowNothing();
        weekOfNobody();
        weeksByNumbers();
        weeks();
        weeksBeyondTheLastThatIsAsked();
        emptyYear();
        weeksOfAYear();
        wearOfAYear();
        goOfAYear();
        makeOfAYear();
        yearsThatStop();
        yearsThatEndTooEarly();
        signsOfAYear();
        yearAsOne();
        undoOfTwelve();
        undoOfThirteen();
        undoOfEach();
        undoOfNothing();
        undoForgotten();
        piece();
        sell();
        patches();
        patchesOfMany();
        quilt();
        Check.finish("WeeksEdgesTest");
    }

    /** wear(): one of PEOPLE, a CLOTH or NONE; -3: others. */
    private static void wear() {
        SkirtsByTheDay x = Twins.full();
        Check.due("wear(5, 6)", x.wear(5, 6), 7);
        Check.due("wear(4, 7)", x.wear(4, 7), -1);
        Check.due("wear(4, 7) again", x.wear(4, 7), 7);
        Check.due("wear(5, NONE)", x.wear(5, -1), 6);
        Check.due("wear(5, NONE) again", x.wear(5, -1), -1);
        Check.due("all five were done", x.count(9), 3 + 5);
        int[] people = {6, MAX, -1, MIN};
        for (int p : people) {
            FULL.refused("wear(" + p + ", 1)", -3, o -> o.wear(p, 1));
            FULL.refused("wear(" + p + ", NONE)", -3, o -> o.wear(p, -1));
            FULL.refused("wear(" + p + ", 7) that another one wears", -3, o -> o.wear(p, 7));
            FULL.refused("wear(" + p + ", 8)", -3, o -> o.wear(p, 8));
        }
        int[] cloths = {8, MAX, -2, MIN};
        for (int c : cloths) {
            FULL.refused("wear(0, " + c + ")", -3, o -> o.wear(0, c));
        }
        BUSY.refused("wear(2, 2)", -3, o -> o.wear(2, 2));
        BUSY.refused("wear(0, 3)", -3, o -> o.wear(0, 3));
    }

    /** wear(): -2: another one wears that. */
    private static void wornByAnother() {
        FULL.refused("wear(0, 7)", -2, o -> o.wear(0, 7));
        FULL.refused("wear(5, 0)", -2, o -> o.wear(5, 0));
        BUSY.refused("wear(0, 1)", -2, o -> o.wear(0, 1));
        SkirtsByTheDay x = Twins.busy();
        x.wear(1, -1);
        Check.due("wear(0, 1) when nobody wears it", x.wear(0, 1), 0);
        Check.due("wear(1, 0) when nobody wears it", x.wear(1, 0), -1);
    }

    private static void go() {
        SkirtsByTheDay x = Twins.full();
        Check.due("go(5, 3)", x.go(5, 3), 1);
        Check.due("go(5, 0)", x.go(5, 0), 3);
        Check.due("go(5, 0) again", x.go(5, 0), 0);
        Check.due("all three were done", x.count(9), 3 + 3);
        SkirtsByTheDay y = Twins.busy();
        Check.due("go(1, 3), no ALMANAC", y.go(1, 3), 1);
        Check.due("LAW there", y.person(1, 3), 0);
        int[] people = {6, MAX, -1, MIN};
        for (int p : people) {
            FULL.refused("go(" + p + ", 0)", o -> o.go(p, 0));
        }
        int[] places = {4, MAX, -1, MIN};
        for (int place : places) {
            FULL.refused("go(0, " + place + ")", o -> o.go(0, place));
        }
        BUSY.refused("go(2, 0)", o -> o.go(2, 0));
    }

    /** CLOTH 0 of the house is made v long: inches BOUGHT, SEWING, inches that fell off, and its HEM then. */
    private static void made(String cloth, int mostHem, int v, int bought, int sewing, int off, int hem) {
        SkirtsByTheDay x = Check.told("", cloth, "");
        x.set(0, mostHem);
        x.set(1, 7);
        x.set(2, 5);
        String call = cloth + " made " + v + " long, MOST HEM " + mostHem;
        Check.due(call, x.make(0, v), bought * 7 + sewing * 5);
        Check.row(call, x, bought, sewing, off);
        Check.due(call + ": LENGTH", x.cloth(0, 0), v);
        Check.due(call + ": HEM", x.cloth(0, 1), hem);
        Check.due(call + ": ALL", x.cloth(0, 2), v + hem);
        Check.due(call + ": SEAMS", x.cloth(0, 3), sewing == 3 ? 1 : 0);
        Check.due(call + ": pieces", x.count(4), off > 0 ? 1 : 0);
        Check.due(call + ": inches in THE BOX", x.count(5), off);
        Check.due(call + ": THE PURSE", x.count(6), -(bought * 7 + sewing * 5));
        Check.due(call + ": it can be undone", x.undo(), 0);
    }

    /** Nothing, if its LENGTH is v, whatever its HEM. */
    private static void madeAsLongAsItIs() {
        made("c50", 3, 50, 0, 0, 0, 0);
        made("c50+3", 3, 50, 0, 0, 0, 3);
        made("c50+4", 3, 50, 0, 0, 0, 4);
        made("c50+9", 0, 50, 0, 0, 0, 9);
        made("c0", 3, 0, 0, 0, 0, 0);
        made("c99+9", 3, 99, 0, 0, 0, 9);
    }

    /** ALL is v to v and MOST HEM: SEWING 1. */
    private static void madeByLettingOut() {
        made("c50+2", 3, 52, 0, 1, 0, 0);
        made("c50+2", 3, 51, 0, 1, 0, 1);
        made("c50+2", 3, 49, 0, 1, 0, 3);
        made("c50+2", 0, 52, 0, 1, 0, 0);
        made("c50", 1, 49, 0, 1, 0, 1);
        made("c50+2", 9, 43, 0, 1, 0, 9);
        made("c90+9", 3, 99, 0, 1, 0, 0);
        made("c3", 3, 0, 0, 1, 0, 3);
    }

    /** ALL is more than v and MOST HEM: CUT, SEWING 2, its HEM is MOST HEM. */
    private static void madeByCutting() {
        made("c50+2", 3, 48, 0, 2, 1, 3);
        made("c50+2", 9, 42, 0, 2, 1, 9);
        made("c50+2", 0, 51, 0, 2, 1, 0);
        made("c50+2", 0, 49, 0, 2, 3, 0);
        made("c50+9", 3, 51, 0, 2, 5, 3);
        made("c99+9", 0, 0, 0, 2, 108, 0);
        made("c99+9", 3, 98, 0, 2, 7, 3);
        made("c4", 3, 0, 0, 2, 1, 3);
    }

    /** ALL is less than v: joined, SEWING 3, its HEM is 0. */
    private static void madeByJoining() {
        made("c50+2", 3, 53, 1, 3, 0, 0);
        made("c50+2", 0, 53, 1, 3, 0, 0);
        made("c50+9", 9, 60, 1, 3, 0, 0);
        made("c0", 3, 99, 99, 3, 0, 0);
        made("c0", 9, 1, 1, 3, 0, 0);
        made("c98", 9, 99, 1, 3, 0, 0);
        SkirtsByTheDay x = Check.told("", "c10", "");
        for (int k = 1; k <= 60; k++) {
            x.make(0, 10 + k);
            Check.due("SEAMS behind " + k, x.cloth(0, 3), k);
        }
        x.make(0, 0);
        Check.due("SEAMS stay when it is CUT", x.cloth(0, 3), 60);
    }

    private static void makeRefused() {
        Check.due("make(7, 99)", Twins.full().make(7, 99), 77 * 2 + 3);
        Check.due("make(7, 0)", Twins.full().make(7, 0), 2);
        int[] lengths = {100, MAX, -1, MIN};
        for (int v : lengths) {
            FULL.refused("make(7, " + v + ")", o -> o.make(7, v));
            BUSY.refused("make(0, " + v + ")", o -> o.make(0, v));
        }
        int[] cloths = {8, MAX, -1, MIN};
        for (int c : cloths) {
            FULL.refused("make(" + c + ", 5)", o -> o.make(c, 5));
        }
        BUSY.refused("make(3, 5)", o -> o.make(3, 5));
    }

    /** THE BOX: at most 20 pieces; if it is full, what comes is lost. */
    private static void fullBox() {
        SkirtsByTheDay x = Twins.fullBox();
        Check.due("20 pieces", x.count(4), 20);
        Check.due("make(0, 70)", x.make(0, 70), 2);
        Check.row("what fell off is told, though it is lost", x, 0, 2, 9);
        Check.due("20 pieces still", x.count(4), 20);
        Check.due("of an inch each", x.count(5), 20);
        Check.due("the last came ahead of it", x.piece(19), 1);
        x.sell(0, 0);
        Check.due("room for one; what was lost does not come", x.count(4), 19);
        x.make(0, 68);
        Check.due("the next one comes", x.piece(19), 2);
        Check.due("20 again", x.count(4), 20);
        x.make(0, 65);
        Check.due("the one behind it is lost", x.count(5), 21);
        x.undo();
        x.undo();
        x.undo();
        Check.due("undone: full as it was", x.count(4) * 100 + x.count(5), 2020);
        Check.due("undone: as long as it was", x.cloth(0, 0), 70);
        FULL_BOX.asked("ahead(1)", 0, o -> o.ahead(1), 0, 0, 0);
    }

    /** With room for one piece, the one of the first of PEOPLE comes. */
    private static void fullBoxInAWeek() {
        SkirtsByTheDay x = Twins.fullBox();
        x.sell(19, 0);
        x.wear(1, 1);
        x.wear(0, 2);
        Check.due("ahead(1)", x.ahead(1), 4);
        Check.row("ahead(1)", x, 0, 4, 15);
        Check.due("it leaves THE BOX", x.count(4) * 100 + x.count(5), 1919);
        Check.due("week()", x.week(), 4);
        Check.row("week()", x, 0, 4, 15);
        Check.due("20 pieces", x.count(4), 20);
        Check.due("the first one's", x.piece(19), 5);
        Check.due("what is in it", x.count(5), 19 + 5);
    }

    /** THE PURSE may be below 0; what is sold comes into it. */
    private static void purseBelowNothing() {
        SkirtsByTheDay x = Check.told("", "c50", "");
        Check.due("at first", x.count(6), 0);
        x.make(0, 46);
        Check.due("SEWING 2", x.count(6), -2);
        x.sell(0, 2);
        Check.due("sold for as much", x.count(6), 0);
        x.make(0, 40);
        x.sell(0, 9);
        Check.due("above 0", x.count(6), -2 + 6 * 9);
        x.make(0, 99);
        Check.due("below 0", x.count(6), 52 - (56 * 2 + 3));
    }

    private static void weekOfNobody() {
        SkirtsByTheDay x = new SkirtsByTheDay();
        Check.due("week() of nobody", x.week(), 0);
        Check.row("week() of nobody", x, 0, 0, 0);
        Check.due("NOW", x.count(3), 1);
        Check.due("it can be undone", x.undo(), 0);
        Check.due("NOW then", x.count(3), 0);
        SkirtsByTheDay y = Check.told("5", "p50@0;c10", "");
        Check.due("week() of one who wears none", y.week(), 0);
        Check.due("the CLOTH stays", y.cloth(0, 0), 10);
        y.wear(0, 0);
        Check.due("week() of one who wears it", y.week(), 15 * 2 + 3);
        Check.due("the CLOTH is as long", y.cloth(0, 0), 25);
        Check.due("week() of one who wears it still", y.week(), 0);
    }

    /** LAW in WEEK NOW; then NOW is 1 more. */
    private static void weeksByNumbers() {
        SkirtsByTheDay x = Check.told("12", "p10@0;c0;c0", "");
        x.wear(0, 0);
        x.week();
        Check.due("LAW of WEEK 0", x.cloth(0, 0), 1);
        x.week();
        Check.due("LAW of WEEK 1", x.cloth(0, 0), 2);
        x.week();
        Check.due("LAW of WEEK 2 is that of WEEK 0", x.cloth(0, 0), 1);
        x.go(0, 3);
        x.week();
        Check.due("LAW at a PLACE without an ALMANAC", x.cloth(0, 0), 0);
    }

    /** weeks(): 0 .. 60; of none nothing can be undone. */
    private static void weeks() {
        BUSY.asked("weeks(0)", 0, o -> o.weeks(0), 0, 0, 0);
        int[] wrong = {61, MAX, -1, MIN};
        for (int n : wrong) {
            BUSY.refused("weeks(" + n + ")", o -> o.weeks(n));
        }
        SkirtsByTheDay x = Check.told("12", "p10@0;c0", "");
        x.wear(0, 0);
        Check.due("weeks(1)", x.weeks(1), 2 + 3);
        Check.row("weeks(1)", x, 1, 3, 0);
        Check.due("it can be undone", x.count(9), 2);
        // let out by joining once, then taken in and let out in turn
        Check.due("weeks(60)", x.weeks(60), 2 + 3 + 59);
        Check.row("weeks(60)", x, 1, 3 + 59, 0);
        Check.due("NOW", x.count(3), 61);
        Check.due("they can be undone as one", x.undo(), 2);
        Check.due("NOW then", x.count(3), 1);
    }

    /** NOW can go beyond 9999, up to which WEEKS can be told to a call. */
    private static void weeksBeyondTheLastThatIsAsked() {
        SkirtsByTheDay x = Check.told("5", "p50@0;c10", "w/200");
        for (int k = 0; k < 167; k++) {
            x.weeks(60);
        }
        Check.due("NOW", x.count(3), 10020);
        Check.due("LAW now", x.person(0, 3), 50);
        Check.due("law(0, 0, 9999)", x.law(0, 0, 9999), 49);
        Check.due("law(0, 0, 10020)", x.law(0, 0, 10020), -1);
        Check.due("light(0, 10020)", x.light(0, 10020), -1);
        Check.due("longest(0, 0, 60)", x.longest(0, 0, 60), 50);
    }

    private static void stays(String text, int at) {
        BUSY.emptied("year()", text, -1 - at, o -> o.year());
    }

    private static void stops(String text) {
        BUSY.read("year()", text, 0, o -> o.year(), 1, 0);
    }

    private static SkirtsByTheDay year(String text, int acts, int stopped, int cost) {
        SkirtsByTheDay x = Twins.busy();
        Check.due("year() of " + text, Check.text(x, text).year(), acts);
        Check.row("year() of " + text, x, stopped, cost);
        Check.due("THE TEXT is empty then", x.count(11), 0);
        Check.due("THE PURSE behind " + text, x.count(6), -30 - cost);
        return x;
    }

    /** An empty one: nothing. */
    private static void emptyYear() {
        BUSY.read("year()", "", 0, o -> o.year(), 0, 0);
        new Twins(SkirtsByTheDay::new).read("year()", "", 0, o -> o.year(), 0, 0);
    }

    /** k and perhaps a digit 1 .. 9. */
    private static void weeksOfAYear() {
        Check.due("NOW behind k", year("k", 1, 0, 5 * 3 + 3 * 2).count(3), 5);
        Check.due("NOW behind k1", year("k1", 1, 0, 21).count(3), 5);
        Check.due("NOW behind k2", year("k2", 1, 0, 21 + 7 * 3 + 3 * 2).count(3), 6);
        SkirtsByTheDay x = new SkirtsByTheDay();
        Check.due("k9", Check.text(x, "k9").year(), 1);
        Check.due("NOW behind k9", x.count(3), 9);
        stays("k0", 1);
        stays("k10", 2);
        stays("k99", 2);
        stays("k:", 1);
        stays("kk", 1);
    }

    /** w, a digit (one of PEOPLE), a digit or -. */
    private static void wearOfAYear() {
        Check.due("w02", year("w02", 1, 0, 0).person(0, 2), 2);
        Check.due("w00, which it wears", year("w00", 1, 0, 0).person(0, 2), 0);
        Check.due("w0-", year("w0-", 1, 0, 0).person(0, 2), -1);
        Check.due("w0- twice", year("w0-;w0-", 2, 0, 0).person(0, 2), -1);
        stops("w01");
        stops("w03");
        stops("w09");
        stops("w20");
        stops("w2-");
        stops("w99");
        stays("w-0", 1);
        stays("w/0", 1);
        stays("w:0", 1);
        stays("w0:", 2);
        stays("w0/", 2);
        stays("w00-", 3);
        stays("w000", 3);
    }

    /** g, a digit, a digit 0 .. 3. */
    private static void goOfAYear() {
        Check.due("g03", year("g03", 1, 0, 0).person(0, 1), 3);
        Check.due("g10", year("g10", 1, 0, 0).person(1, 1), 0);
        Check.due("g11, where it is", year("g11", 1, 0, 0).person(1, 1), 1);
        stops("g20");
        stops("g93");
        stays("g04", 2);
        stays("g0-", 2);
        stays("g0/", 2);
        stays("g/0", 1);
        stays("g:0", 1);
        stays("g-0", 1);
        stays("g000", 3);
    }

    /** m, a digit (a CLOTH), =, a number (1 or 2 digits). */
    private static void makeOfAYear() {
        Check.due("m0=0", year("m0=0", 1, 0, 2 * 2).cloth(0, 0), 0);
        Check.due("m0=00", year("m0=00", 1, 0, 2 * 2).cloth(0, 0), 0);
        Check.due("m2=9", year("m2=9", 1, 0, 6 * 3 + 3 * 2).cloth(2, 0), 9);
        Check.due("m2=09", year("m2=09", 1, 0, 24).cloth(2, 0), 9);
        Check.due("m0=99", year("m0=99", 1, 0, 71 * 3 + 3 * 2).cloth(0, 0), 99);
        Check.due("m0=25, as long as it is", year("m0=25", 1, 0, 0).cloth(0, 0), 25);
        stops("m3=5");
        stops("m9=0");
        stays("m0=100", 5);
        stays("m0=000", 5);
        stays("m0=-", 3);
        stays("m05", 2);
        stays("m=5", 1);
        stays("m/=5", 1);
        stays("m:=5", 1);
        stays("m0=/", 3);
        stays("m0=:", 3);
        stays("m0=1/", 4);
        stays("m0=1:", 4);
    }

    /** They are done one by one, till one can't be. */
    private static void yearsThatStop() {
        SkirtsByTheDay x = year("g03;k;w01;k", 2, 1, 2 * 2 + 5 * 3 + 3 * 2);
        Check.due("NOW", x.count(3), 5);
        Check.due("what was done ahead stays", x.person(0, 1) * 10 + x.cloth(0, 0), 30);
        Check.due("wear() that was not done", x.person(0, 2), 0);
        Check.due("what was done can be undone as one", x.undo(), 11);
        Check.due("NOW then", x.count(3), 4);
        Check.due("where it was", x.person(0, 1), 0);
        year("k;w2-", 1, 1, 21);
        year("k;g20", 1, 1, 21);
        year("k;m3=1", 1, 1, 21);
        year("w1-;w01;w10;w2-;k", 3, 1, 0);
    }

    private static void yearsThatEndTooEarly() {
        stays(";", 0);
        stays("x", 0);
        stays("K", 0);
        stays("k;", 2);
        stays("k5;", 3);
        stays("k;;", 2);
        stays("w", 1);
        stays("w0", 2);
        stays("w0;", 2);
        stays("g", 1);
        stays("g0", 2);
        stays("m", 1);
        stays("m0", 2);
        stays("m0=", 3);
        stays("m0=5;", 5);
        stays("k;w02;g03;m0=5;x", 15);
    }

    /** 60 signs; 60, if it has more and the first 60 could go on or end. */
    private static void signsOfAYear() {
        SkirtsByTheDay x = new SkirtsByTheDay();
        Check.due("30 ACTS in 60 signs", Check.text(x, Check.times("k;", 29) + "k9").year(), 30);
        Check.due("NOW", x.count(3), 29 + 9);
        Check.due("one can be undone", x.undo(), 0);
        Check.due("30 ACTS in 59 signs", Check.text(x, Check.times("k;", 29) + "k").year(), 30);
        stays(Check.times("k;", 29) + "k9;", 60);
        stays(Check.times("k;", 29) + "k99", 60);
        stays(Check.times("k;", 29) + "k9x", 60);
        stays(Check.times("k;", 30), 60);
        stays(Check.times("k;", 30) + "k", 60);
        stays(Check.times("k;", 40), 60);
        stays(Check.times("k;", 29) + "kx", 59);
        stays(Check.times("k;", 29) + "kxx", 59);
        stays(Check.times("k;", 29) + "x" + "k;k;", 58);
        stays(Check.times("k;", 28) + "w0-;", 60);
        stays(Check.times("k;", 28) + "m0=55", 60);
        Check.due("29 ACTS in 60 signs", Check.text(Twins.busy(), Check.times("k;", 28) + "m0=5").year(), 29);
    }

    /** year() of which one ACT was done, as one. */
    private static void yearAsOne() {
        SkirtsByTheDay x = year("g03;g02;g01;w2-", 3, 1, 0);
        Check.due("12 can be undone", x.count(9), 12);
        Check.due("undo()", x.undo(), 11);
        Check.due("where it was ahead of all three", x.person(0, 1), 0);
        SkirtsByTheDay y = Check.told("", "p5@0", "");
        Check.text(y, "w00").year();
        Check.due("a year of which none was done", y.undo(), -1);
        Check.text(y, "g01;w00").year();
        Check.due("a year of which one was done", y.undo(), 0);
        Check.due("where it was", y.person(0, 1), 0);
    }

    /** Of 12 that are kept, the latest ones. */
    private static void undoOfTwelve() {
        SkirtsByTheDay x = Check.told("", "p5@0", "");
        for (int k = 1; k <= 12; k++) {
            x.week();
            Check.due("what can be undone", x.count(9), k);
        }
        for (int left = 11; left >= 0; left--) {
            Check.due("undo()", x.undo(), left);
            Check.due("NOW", x.count(3), left);
        }
        Check.due("undo() of nothing", x.undo(), -1);
        Check.due("NOW at the end", x.count(3), 0);
    }

    private static void undoOfThirteen() {
        SkirtsByTheDay x = Check.told("", "p5@0", "");
        for (int k = 1; k <= 13; k++) {
            x.week();
        }
        Check.due("12 can be undone", x.count(9), 12);
        for (int k = 0; k < 12; k++) {
            x.undo();
        }
        Check.due("the first can't be", x.undo(), -1);
        Check.due("NOW", x.count(3), 1);
        for (int k = 0; k < 30; k++) {
            x.go(0, k % 4);
        }
        Check.due("12 can be undone again", x.count(9), 12);
        for (int k = 0; k < 12; k++) {
            x.undo();
        }
        Check.due("where it went the 18th time", x.person(0, 1), 17 % 4);
    }

    /** All that can be undone: NOW, who wears what and is where, CLOTHS, THE BOX, THE PURSE are as ahead of it. */
    private static void undoOfEach() {
        Twins calm = new Twins(Twins::calm);
        calm.undone("wear(0, 2)", o -> o.wear(0, 2));
        calm.undone("wear(0, 0), which it wears", o -> o.wear(0, 0));
        calm.undone("wear(1, NONE)", o -> o.wear(1, -1));
        calm.undone("go(0, 3)", o -> o.go(0, 3));
        calm.undone("go(0, 0), where it is", o -> o.go(0, 0));
        calm.undone("make(0, 99), joined", o -> o.make(0, 99));
        calm.undone("make(0, 27), let out", o -> o.make(0, 27));
        calm.undone("make(0, 0), CUT", o -> o.make(0, 0));
        calm.undone("make(0, 25), as long as it is", o -> o.make(0, 25));
        calm.undone("week()", o -> o.week());
        calm.undone("weeks(1)", o -> o.weeks(1));
        calm.undone("weeks(60)", o -> o.weeks(60));
        calm.undone("year()", o -> Check.text(o, "w0-;w10;g03;m1=99;k9;m0=0;k").year());
        calm.undone("year() that stops", o -> Check.text(o, "k9;m2=99;w22;k").year());
        calm.undone("sell(0, 9)", o -> o.sell(0, 9));
        calm.undone("sell(1, 0)", o -> o.sell(1, 0));
        calm.undone("quilt(1)", o -> o.quilt(1));
        calm.undone("quilt(17)", o -> o.quilt(17));
        FULL.undone("weeks(60) of six", o -> o.weeks(60));
        calm.undone("wear() behind refused ones", o -> o.wear(0, 9) + o.go(0, 9) + o.make(0, -1) + o.weeks(0)
            + o.sell(2, 0) + o.quilt(18) + o.wear(0, 2));
    }

    private static void undoOfNothing() {
        Twins none = new Twins(() -> Check.text(Check.told("5", "p50@0;c20", ""), "5"));
        none.refused("undo() of nothing", o -> o.undo());
        SkirtsByTheDay x = Check.told("5", "p50@0;c20", "");
        x.wear(0, 1);
        x.go(0, 4);
        x.make(0, 100);
        x.weeks(0);
        x.weeks(61);
        x.sell(0, 0);
        x.quilt(1);
        x.sheet(2, 1, 5, 0);
        x.set(0, 5);
        x.draw(5, 1, 3);
        x.keep(0);
        x.seen(0, 0, 0, 0);
        x.job(1, 1);
        x.ahead(5);
        x.patches(1);
        x.dress(1);
        Check.due("none of these can be undone", x.undo(), -1);
    }

    /** house() and again() forget them, if they are not refused; an empty house() does not. */
    private static void undoForgotten() {
        SkirtsByTheDay x = Twins.busy();
        Check.text(x, "x").house();
        Check.due("a refused house()", x.count(9), 12);
        Check.text(x, "").house();
        Check.due("an empty house()", x.count(9), 12);
        x.again(2);
        Check.due("a refused again()", x.count(9), 12);
        Check.text(x, "c5").house();
        Check.due("house() forgets", x.count(9), 0);
        Check.due("undo() then", x.undo(), -1);
        x.week();
        x.again(0);
        Check.due("again() refused as a CLOTH came", x.count(9), 1);
        SkirtsByTheDay y = Twins.busy();
        Check.due("again(0)", y.again(0), true);
        Check.due("again() forgets", y.undo(), -1);
    }

    /** piece(): NoSuchElementException: none such. */
    private static void piece() {
        Check.due("piece(2)", Twins.busy().piece(2), 17);
        Check.due("piece(0)", Twins.busy().piece(0), 7);
        int[] wrong = {3, 4, 19, 20, 31, 32, MAX, -1, MIN};
        for (int i : wrong) {
            BUSY.thrown("piece(" + i + ")", o -> o.piece(i));
        }
        Check.due("piece(19) of 20", Twins.fullBox().piece(19), 1);
        FULL_BOX.thrown("piece(20) of 20", o -> o.piece(20));
    }

    /** sell(): a piece that is there, v 0 .. 9. */
    private static void sell() {
        Check.due("sell(2, 9)", Twins.busy().sell(2, 9), 17 * 9);
        Check.due("sell(0, 0)", Twins.busy().sell(0, 0), 0);
        SkirtsByTheDay x = Twins.fullBox();
        Check.due("sell(19, 9) of 20", x.sell(19, 9), 9);
        Check.due("it is gone", x.count(4), 19);
        Check.due("sell(19, 9) of 19", x.sell(19, 9), -1);
        int[] prices = {10, MAX, -1, MIN};
        for (int v : prices) {
            BUSY.refused("sell(0, " + v + ")", o -> o.sell(0, v));
        }
        int[] pieces = {3, 20, 32, MAX, -1, MIN};
        for (int i : pieces) {
            BUSY.refused("sell(" + i + ", 1)", o -> o.sell(i, 1));
        }
        FULL_BOX.refused("sell(20, 1)", o -> o.sell(20, 1));
        SkirtsByTheDay y = Twins.busy();
        y.sell(1, 1);
        Check.due("the order stays", y.piece(0) * 100 + y.piece(1), 717);
        y.sell(0, 1);
        y.sell(0, 1);
        Check.due("none is left", y.count(4) + y.count(5), 0);
        Check.due("sell() of none", y.sell(0, 1), -1);
    }

    /** patches(): v 1 .. 999; -2: all do not do. THE BOX has 7, 8 and 17. */
    private static void patches() {
        BUSY.asked("patches(1)", 1, o -> o.patches(1), 6, 1);
        BUSY.asked("patches(7)", 1, o -> o.patches(7), 0, 1);
        BUSY.asked("patches(8)", 1, o -> o.patches(8), 0, 2);
        BUSY.asked("patches(9)", 1, o -> o.patches(9), 8, 4);
        BUSY.asked("patches(17)", 1, o -> o.patches(17), 0, 4);
        BUSY.asked("patches(18)", 2, o -> o.patches(18), 6, 5);
        BUSY.asked("patches(25)", 2, o -> o.patches(25), 0, 6);
        BUSY.asked("patches(26)", 3, o -> o.patches(26), 6, 7);
        BUSY.asked("patches(32)", 3, o -> o.patches(32), 0, 7);
        BUSY.refused("patches(33)", -2, o -> o.patches(33));
        BUSY.refused("patches(999)", -2, o -> o.patches(999));
        int[] wrong = {1000, MAX, 0, -1, MIN};
        for (int v : wrong) {
            BUSY.refused("patches(" + v + ")", o -> o.patches(v));
            FULL.refused("patches(" + v + ") of none", o -> o.patches(v));
        }
        FULL_BOX.asked("patches(20)", 20, o -> o.patches(20), 0, (1 << 20) - 1);
        FULL_BOX.refused("patches(21)", -2, o -> o.patches(21));
    }

    /** A piece of 108, eight of 99 and one of this: all of them are 999 with 99. */
    private static SkirtsByTheDay many(int last) {
        SkirtsByTheDay x = Check.told("", "c99+9", "");
        x.set(0, 0);
        x.make(0, 0);
        for (int k = 0; k < 8; k++) {
            x.make(0, 99);
            x.make(0, 0);
        }
        x.make(0, last);
        x.make(0, 0);
        return x;
    }

    private static void patchesOfMany() {
        Twins enough = new Twins(() -> many(99));
        enough.asked("patches(999) of 999", 10, o -> o.patches(999), 0, 1023);
        enough.asked("patches(998) of 999", 10, o -> o.patches(998), 1, 1023);
        enough.asked("patches(900) of 999", 9, o -> o.patches(900), 0, 511);
        enough.asked("patches(108) of 999", 1, o -> o.patches(108), 0, 1);
        enough.asked("patches(100) of 999", 1, o -> o.patches(100), 8, 1);
        enough.asked("patches(109) of 999", 2, o -> o.patches(109), 89, 6);
        Twins less = new Twins(() -> many(98));
        less.refused("patches(999) of 998", -2, o -> o.patches(999));
        less.asked("patches(998) of 998", 10, o -> o.patches(998), 0, 1023);
        less.refused("quilt(999) of 998", -2, o -> o.quilt(999));
    }

    /** quilt(): -2, NONE: likewise; SEWING 1 for each piece but the first. */
    private static void quilt() {
        BUSY.refused("quilt(33)", -2, o -> o.quilt(33));
        BUSY.refused("quilt(999)", -2, o -> o.quilt(999));
        int[] wrong = {1000, MAX, 0, -1, MIN};
        for (int v : wrong) {
            BUSY.refused("quilt(" + v + ")", o -> o.quilt(v));
            FULL.refused("quilt(" + v + ") of none", o -> o.quilt(v));
        }
        SkirtsByTheDay one = Twins.busy();
        Check.due("quilt(1) of one piece", one.quilt(1), 0);
        Check.due("THE PURSE", one.count(6), -30);
        Check.due("the least is gone", one.piece(0) * 100 + one.piece(1), 817);
        Check.due("it can be undone", one.undo(), 11);
        Check.due("it is back", one.piece(0), 7);
        SkirtsByTheDay all = Twins.busy();
        Check.due("quilt(32) of all", all.quilt(32), 2 * 2);
        Check.due("none is left", all.count(4) + all.count(5), 0);
        Check.due("THE PURSE then", all.count(6), -34);
        Check.row("the ROW stays", all, 12, 6, 0);
        SkirtsByTheDay ten = many(99);
        Check.due("quilt(999)", ten.quilt(999), 9);
        Check.due("quilt(1) of none then", ten.quilt(1), -2);
    }
}
