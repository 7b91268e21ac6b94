/** The edges of promises 38 to 52: what was seen, tailors, years by a seed, what is kept, counted and told. */
public final class KeptEdgesTest {
    private static final int MIN = Integer.MIN_VALUE;
    private static final int MAX = Integer.MAX_VALUE;
    private static final int ALL_LAGS = (1 << 27) - 1;
    private static final int[] NOBODY = {6, MAX, -1, MIN};
    private static final Twins BUSY = new Twins(Twins::busy);
    private static final Twins FULL = new Twins(Twins::full);
    private static final Twins FRESH = new Twins(SkirtsByTheDay::new);

    public static void main(String[] args) {
        seen();
        twelveSeen();
        forget();
        fines();
        finesOfAnInch();
        lags();
        lagsOfWeeksBelowNothing();
        lagsOfNothing();
        heights();
        heightsAtTheEnds();
        job();
        sevenJobs();
        rest();
        late();
        lateByAnHour();
        timely();
        timelyByAnHour();
        hired();
        draw();
        drawnPlaces();
        drawnPlacesOfMostWeeks();
        drawnNumbers();
        keep();
        again();
        againOfNothing();
        againWhenSomeCame();
        count();
        row();
        questions();
        rowOfCallsThatTellNone();
        Check.finish("KeptEdgesTest");
    }

    /** seen(): PLACES 0 .. 3, WEEKS 0 .. 9999, v 0 .. 99. */
    private static void seen() {
        SkirtsByTheDay x = Twins.full();
        Check.due("seen(5, 3, 9999, 99)", x.seen(5, 3, 9999, 99), 1);
        Check.due("seen(0, 0, 0, 0)", x.seen(0, 0, 0, 0), 2);
        Check.due("seen(0, 0, 0, 0) again", x.seen(0, 0, 0, 0), 3);
        for (int p : NOBODY) {
            FULL.refused("seen(" + p + ", 0, 0, 0)", o -> o.seen(p, 0, 0, 0));
        }
        int[] places = {4, MAX, -1, MIN};
        for (int place : places) {
            FULL.refused("seen(0, " + place + ", 0, 0)", o -> o.seen(0, place, 0, 0));
        }
        int[] weeks = {10000, MAX, -1, MIN};
        for (int week : weeks) {
            FULL.refused("seen(0, 0, " + week + ", 0)", o -> o.seen(0, 0, week, 0));
        }
        int[] lengths = {100, MAX, -1, MIN};
        for (int v : lengths) {
            FULL.refused("seen(0, 0, 0, " + v + ")", o -> o.seen(0, 0, 0, v));
        }
        BUSY.refused("seen(2, 0, 0, 0)", o -> o.seen(2, 0, 0, 0));
    }

    private static SkirtsByTheDay watched() {
        SkirtsByTheDay x = Twins.busy();
        for (int k = 4; k <= 12; k++) {
            Check.due("seen() " + k, x.seen(0, 0, 0, 26), k);
        }
        return x;
    }

    /** Refused: 12. */
    private static void twelveSeen() {
        Twins twelve = new Twins(KeptEdgesTest::watched);
        twelve.refused("seen() behind 12", o -> o.seen(0, 0, 0, 25));
        twelve.refused("seen() of nobody behind 12", o -> o.seen(2, 0, 0, 25));
        twelve.asked("fines(1) of 12", 11 + 9 * 2, o -> o.fines(1), 4095 - 5);
        SkirtsByTheDay x = watched();
        x.forget();
        Check.due("seen() when they are forgotten", x.seen(0, 0, 0, 25), 1);
    }

    private static void forget() {
        FRESH.refused("forget() of nothing", 0, o -> o.forget());
        SkirtsByTheDay x = watched();
        Check.due("forget() of 12", x.forget(), 12);
        Check.due("forget() again", x.forget(), 0);
        Check.due("what was seen", x.count(7), 0);
        Check.due("jobs stay", x.count(8), 3);
        Check.due("what can be undone stays", x.count(9), 12);
    }

    /** fines(): f 0 .. 99. */
    private static void fines() {
        BUSY.asked("fines(0)", 0, o -> o.fines(0), 2);
        BUSY.asked("fines(1)", 11, o -> o.fines(1), 2);
        BUSY.asked("fines(99)", 11 * 99, o -> o.fines(99), 2);
        FRESH.asked("fines(99) of nothing", 0, o -> o.fines(99), 0);
        int[] wrong = {100, MAX, -1, MIN};
        for (int f : wrong) {
            BUSY.refused("fines(" + f + ")", o -> o.fines(f));
        }
    }

    /** For each inch it is off LAW, above or below, and each such one. */
    private static void finesOfAnInch() {
        SkirtsByTheDay x = Check.told("9", "p99@0;p1@0", "99*i");
        int[] lengths = {0, 1, 99};
        int[] due = {0, 2, 100};
        for (int k = 0; k < lengths.length; k++) {
            x.forget();
            x.seen(0, 0, 0, lengths[k]);
            Check.due("fines(1) of " + lengths[k] + " where LAW is 0", x.fines(1), due[k]);
            Check.row("which was off", x, due[k] > 0 ? 1 : 0);
            x.forget();
            x.seen(1, 0, 0, 99 - lengths[k]);
            Check.due("fines(1) of " + (99 - lengths[k]) + " where LAW is 99", x.fines(1), due[k]);
        }
        x.forget();
        for (int k = 0; k < 12; k++) {
            x.seen(0, 0, 0, 99);
        }
        Check.due("fines(99) of 12 that are off by 99", x.fines(99), 12 * 100 * 99);
        Check.row("all of them", x, 4095);
    }

    private static int bit(int lag) {
        return 1 << (lag + 13);
    }

    /** lags(): -13 .. 13, bit 13 being 0. */
    private static void lags() {
        SkirtsByTheDay x = Check.told("00000000000001", "p10@0", "");
        x.seen(0, 0, 14, 1);
        Check.due("ahead by 13, behind by 1", x.lags(), bit(13) | bit(-1));
        x.forget();
        x.seen(0, 0, 13, 1);
        Check.due("not at all", x.lags(), bit(0));
        x.forget();
        x.seen(0, 0, 26, 1);
        Check.due("behind by 13, ahead by 1", x.lags(), bit(-13) | bit(1));
        x.forget();
        x.seen(0, 0, 27, 1);
        Check.due("14 weeks away on both sides", x.lags(), bit(0));
        BUSY.refused("lags() tells no ROW", 0, o -> o.lags());
    }

    /** Of a WEEK below 0: not. */
    private static void lagsOfWeeksBelowNothing() {
        int[] weeks = {0, 1, 12, 13, 14, 9999};
        for (int week : weeks) {
            SkirtsByTheDay x = Check.told("9", "p99@0", "");
            x.seen(0, 3, week, 0);
            int below = Math.max(0, 13 - week);
            Check.due("lags() of WEEK " + week, x.lags(), ALL_LAGS & ~((1 << below) - 1));
        }
        SkirtsByTheDay y = Check.told("9", "p99@0", "w-998*10");
        y.seen(0, 0, 9999, 32);
        Check.due("of a WEEK above 9999", y.lags(), bit(13));
    }

    private static void lagsOfNothing() {
        FRESH.refused("lags() of nothing seen", ALL_LAGS, o -> o.lags());
        FULL.refused("lags() of nothing seen of six", ALL_LAGS, o -> o.lags());
    }

    /** heights(): 1 .. 99; NONE without; NONE: none such. */
    private static void heights() {
        BUSY.asked("heights(0)", 2, o -> o.heights(0), 50, 51);
        BUSY.asked("heights(1)", 2, o -> o.heights(1), 60, 61);
        FULL.asked("heights(5) of nothing seen", 99, o -> o.heights(5), 1, 99);
        for (int p : NOBODY) {
            FULL.refused("heights(" + p + ")", o -> o.heights(p));
        }
        BUSY.refused("heights(2)", o -> o.heights(2));
    }

    private static void heightsAtTheEnds() {
        int[] seen = {0, 1, 2, 98, 99};
        for (int v : seen) {
            SkirtsByTheDay x = Check.told("9", "p50@0;p50@0", "h");
            x.seen(1, 0, 0, v);
            Check.due("heights(1) of " + v, x.heights(1), v == 0 ? 0 : 1);
            Check.row("heights(1) of " + v, x, v == 0 ? -1 : v, v == 0 ? -1 : v);
            Check.due("heights(0) of whom nothing was seen", x.heights(0), 99);
        }
    }

    /** job(): 1 .. 20 hours, wanted in hour 0 .. 99. */
    private static void job() {
        SkirtsByTheDay x = new SkirtsByTheDay();
        Check.due("job(1, 0)", x.job(1, 0), 1);
        Check.due("job(20, 99)", x.job(20, 99), 2);
        Check.due("job(1, 99)", x.job(1, 99), 3);
        Check.due("job(20, 0)", x.job(20, 0), 4);
        int[] hours = {0, 21, MAX, -1, MIN};
        for (int h : hours) {
            BUSY.refused("job(" + h + ", 5)", o -> o.job(h, 5));
        }
        int[] dues = {100, MAX, -1, MIN};
        for (int due : dues) {
            BUSY.refused("job(5, " + due + ")", o -> o.job(5, due));
        }
    }

    private static SkirtsByTheDay seven(int hours, int due) {
        SkirtsByTheDay x = new SkirtsByTheDay();
        for (int k = 1; k <= 7; k++) {
            Check.due("job " + k, x.job(hours, due), k);
        }
        return x;
    }

    /** -2: 7 are there. */
    private static void sevenJobs() {
        Twins seven = new Twins(() -> seven(20, 0));
        seven.refused("an eighth job", -2, o -> o.job(1, 0));
        seven.refused("an eighth job", -2, o -> o.job(20, 99));
        seven.refused("an eighth job of no hours", o -> o.job(0, 0));
        seven.refused("an eighth job in hour 100", o -> o.job(1, 100));
        SkirtsByTheDay x = seven(20, 0);
        x.late();
        x.timely();
        x.hired(3);
        x.rest();
        Check.due("a job when they are done with", x.job(1, 0), 1);
        Check.due("late() of it alone", x.late(), 1);
        Check.row("late() of it alone", x, 0);
        x.job(2, 9);
        Check.due("late() of two", x.late(), 1);
        Check.row("late() of two", x, 0, 1);
        Check.due("timely() of two", x.timely(), 1);
        Check.row("timely() of two", x, 2);
        Check.due("hired(3) of two", x.hired(3), 2);
        Check.row("hired(3) of two", x, 0, 1);
    }

    private static void rest() {
        FRESH.refused("rest() of nothing", 0, o -> o.rest());
        SkirtsByTheDay x = Twins.busy();
        Check.due("rest() of 3", x.rest(), 3);
        Check.due("rest() again", x.rest(), 0);
        Check.due("jobs", x.count(8), 0);
        Check.due("what was seen stays", x.count(7), 3);
        Check.due("rest() of 7", seven(1, 1).rest(), 7);
    }

    private static void late() {
        FRESH.asked("late() of nothing", 0, o -> o.late());
        BUSY.asked("late()", 2, o -> o.late(), 1, 0, 2);
        Twins long7 = new Twins(() -> seven(20, 0));
        long7.asked("late() of 7", 20 * 28, o -> o.late(), 0, 1, 2, 3, 4, 5, 6);
        Twins short7 = new Twins(() -> seven(14, 98));
        short7.asked("late() of 7 of which the last is in time", 0, o -> o.late(), 0, 1, 2, 3, 4, 5, 6);
        Twins last = new Twins(() -> seven(14, 97));
        last.asked("late() of 7 of which the last is late", 1, o -> o.late(), 0, 1, 2, 3, 4, 5, 6);
    }

    /** By its end less when it is wanted, 0 at least. */
    private static void lateByAnHour() {
        int[] dues = {99, 6, 5, 4, 0};
        int[] late = {0, 0, 0, 1, 5};
        for (int k = 0; k < dues.length; k++) {
            SkirtsByTheDay x = new SkirtsByTheDay();
            x.job(5, dues[k]);
            Check.due("late() of 5 hours wanted in hour " + dues[k], x.late(), late[k]);
            Check.row("late() of one", x, 0);
        }
        SkirtsByTheDay y = new SkirtsByTheDay();
        y.job(5, 99);
        y.job(5, 4);
        Check.due("who is early makes up for none", y.late(), 1);
        Check.row("who is early makes up for none", y, 1, 0);
    }

    private static void timely() {
        FRESH.asked("timely() of nothing", 0, o -> o.timely(), 0);
        BUSY.asked("timely()", 2, o -> o.timely(), 5);
        Twins never = new Twins(() -> seven(1, 0));
        never.asked("timely() of 7 that can't be", 0, o -> o.timely(), 0);
        Twins four = new Twins(() -> seven(20, 99));
        four.asked("timely() of 7, the least bits", 4, o -> o.timely(), 15);
        Twins all = new Twins(() -> seven(14, 98));
        all.asked("timely() of all 7", 7, o -> o.timely(), 127);
        Twins six = new Twins(() -> seven(14, 97));
        six.asked("timely() of 7 but one", 6, o -> o.timely(), 63);
    }

    private static void timelyByAnHour() {
        int[] dues = {6, 5, 4};
        int[] timely = {1, 1, 0};
        for (int k = 0; k < dues.length; k++) {
            SkirtsByTheDay x = new SkirtsByTheDay();
            x.job(5, dues[k]);
            Check.due("timely() of 5 hours wanted in hour " + dues[k], x.timely(), timely[k]);
            Check.row("which", x, timely[k]);
        }
    }

    /** hired(): n 1 .. 3. */
    private static void hired() {
        for (int n = 1; n <= 3; n++) {
            int tailors = n;
            FRESH.asked("hired(" + n + ") of nothing", 0, o -> o.hired(tailors));
        }
        BUSY.asked("hired(1)", 9, o -> o.hired(1), 0, 0, 0);
        BUSY.asked("hired(2)", 5, o -> o.hired(2), 0, 0, 1);
        BUSY.asked("hired(3)", 4, o -> o.hired(3), 0, 1, 2);
        Twins seven = new Twins(() -> seven(20, 0));
        seven.asked("hired(1) of 7", 140, o -> o.hired(1), 0, 0, 0, 0, 0, 0, 0);
        seven.asked("hired(2) of 7", 80, o -> o.hired(2), 0, 0, 0, 0, 1, 1, 1);
        seven.asked("hired(3) of 7", 60, o -> o.hired(3), 0, 0, 0, 1, 1, 1, 2);
        int[] wrong = {0, 4, MAX, -1, MIN};
        for (int n : wrong) {
            BUSY.refused("hired(" + n + ")", o -> o.hired(n));
            FRESH.refused("hired(" + n + ") of nothing", o -> o.hired(n));
        }
        SkirtsByTheDay x = new SkirtsByTheDay();
        x.job(7, 0);
        Check.due("hired(3) of one job", x.hired(3), 7);
        Check.row("hired(3) of one job", x, 0);
        x.job(7, 0);
        Check.due("hired(3) of two jobs", x.hired(3), 7);
        Check.row("hired(3) of two jobs", x, 0, 1);
    }

    /** draw(): n 1 .. 26. */
    private static void draw() {
        int[] wrong = {0, 27, MAX, -1, MIN};
        for (int n : wrong) {
            BUSY.refused("draw(1, 0, " + n + ")", o -> o.draw(1, 0, n));
            BUSY.refused("draw(1, 3, " + n + ")", o -> o.draw(1, 3, n));
            FRESH.refused("draw(1, 0, " + n + ")", o -> o.draw(1, 0, n));
        }
        SkirtsByTheDay x = new SkirtsByTheDay();
        Check.due("draw(2, 0, 26)", x.draw(2, 0, 26), 1);
        Check.due("26 WEEKS", x.light(0, 26), x.light(0, 0));
        Check.due("draw(2, 0, 1)", x.draw(2, 0, 1), 1);
        Check.due("one WEEK", x.light(0, 25) * 10 + x.light(0, 1), x.light(0, 0) * 11);
    }

    /** For a PLACE that has an ALMANAC, or the next one (at most 4). */
    private static void drawnPlaces() {
        SkirtsByTheDay x = new SkirtsByTheDay();
        for (int place = 0; place < 4; place++) {
            Check.due("the next one, " + place, x.draw(place, place, 5), place + 1);
            Check.due("one that has one, " + place, x.draw(place + 7, place, 6), place + 1);
        }
        Check.due("the first again", x.draw(5, 0, 5), 4);
        int[] wrong = {4, 5, MAX, -1, MIN};
        for (int place : wrong) {
            FULL.refused("draw(1, " + place + ", 5)", o -> o.draw(1, place, 5));
            BUSY.refused("draw(1, " + place + ", 5)", o -> o.draw(1, place, 5));
            FRESH.refused("draw(1, " + place + ", 5)", o -> o.draw(1, place, 5));
        }
        Check.due("the one behind the last", Twins.busy().draw(1, 3, 5), 4);
        FRESH.refused("draw(1, 1, 5) of no PLACE 0", o -> o.draw(1, 1, 5));
        SkirtsByTheDay y = Twins.busy();
        y.draw(1, 1, 5);
        Check.due("the others stay", y.light(0, 2) * 10 + y.light(2, 9), 93);
        Check.due("what can be undone stays", y.count(9), 12);
    }

    /** As many WEEKS as there can be, of one PLACE: those of the others stay. */
    private static void drawnPlacesOfMostWeeks() {
        for (int place = 0; place < 4; place++) {
            SkirtsByTheDay x = Check.told("1/22/333/4444", "", "");
            Check.due("draw(9, " + place + ", 26)", x.draw(9, place, 26), 4);
            for (int other = 0; other < 4; other++) {
                for (int week = 0; week < 27 && other != place; week++) {
                    Check.due("light(" + other + ", " + week + ")", x.light(other, week), other + 1);
                }
            }
        }
    }

    /** As ints, without sign: seeds at the ends of what there is. */
    private static void drawnNumbers() {
        int[] seeds = {0, 1, -1, MIN, MAX, 65536, -65536, 12345};
        for (int seed : seeds) {
            SkirtsByTheDay x = new SkirtsByTheDay();
            x.draw(seed, 0, 26);
            long r = seed & 0xFFFFFFFFL;
            for (int w = 0; w < 26; w++) {
                r = (r * 1103515245L + 12345L) % 4294967296L;
                Check.due("draw " + w + " by seed " + seed, x.light(0, w), r / 65536 % 10);
            }
        }
        SkirtsByTheDay zero = new SkirtsByTheDay();
        zero.draw(0, 0, 2);
        Check.due("12345 by 65536 is 0", zero.light(0, 0), 0);
        Check.due("3554416254 by 65536 is 54236", zero.light(0, 1), 6);
    }

    /** keep(): a number 0 .. 1. */
    private static void keep() {
        int[] wrong = {2, MAX, -1, MIN};
        for (int i : wrong) {
            BUSY.refused("keep(" + i + ")", 0, o -> o.keep(i) ? 1 : 0);
            FRESH.refused("keep(" + i + ")", 0, o -> o.keep(i) ? 1 : 0);
        }
        SkirtsByTheDay x = Twins.busy();
        Check.due("keep(0)", x.keep(0), true);
        Check.due("keep(1)", x.keep(1), true);
        Check.due("THE TEXT and the ROW stay", x.count(11) * 10 + x.count(10), 43);
        Check.due("what can be undone stays", x.count(9), 12);
        x.week();
        x.keep(1);
        x.week();
        x.again(0);
        Check.due("kept under 0", x.count(3), 4);
        x.again(1);
        Check.due("kept under 1, the latest", x.count(3), 5);
    }

    private static void again() {
        SkirtsByTheDay x = Twins.busy();
        Check.due("again(0)", x.again(0), true);
        Check.due("NOW", x.count(3), 1);
        Check.due("who is where", x.person(0, 1) * 10 + x.person(1, 1), 1);
        Check.due("CLOTHS", x.cloth(0, 2) * 1000 + x.cloth(1, 0) * 10 + x.cloth(0, 3), 27200);
        Check.due("THE BOX", x.count(4) * 100 + x.count(5), 107);
        Check.due("THE PURSE", x.count(6), -2);
        Check.due("nothing can be undone", x.count(9), 0);
        Check.due("THE TEXT stays", x.count(11), 4);
        Check.row("the ROW stays", x, 12, 6, 0);
        Check.due("what was seen, jobs and terms stay", x.count(7) * 100 + x.count(8) * 10 + x.set(0, 4), 334);
        Check.due("again(1)", x.again(1), true);
        Check.due("NOW", x.count(3), 3);
        Check.due("THE BOX", x.count(4) * 100 + x.count(5), 325);
        Check.due("SEAMS", x.cloth(0, 3), 2);
        Check.due("again(1) twice", x.again(1), true);
    }

    /** Refused: nothing kept. */
    private static void againOfNothing() {
        int[] wrong = {2, MAX, -1, MIN};
        for (int i : wrong) {
            BUSY.refused("again(" + i + ")", 0, o -> o.again(i) ? 1 : 0);
        }
        FRESH.refused("again(0) of nothing", 0, o -> o.again(0) ? 1 : 0);
        FRESH.refused("again(1) of nothing", 0, o -> o.again(1) ? 1 : 0);
        Twins one = new Twins(() -> {
            SkirtsByTheDay x = Check.told("5", "p50@0;c20", "");
            x.keep(1);
            x.week();
            return x;
        });
        one.refused("again(0) of nothing kept under 0", 0, o -> o.again(0) ? 1 : 0);
        SkirtsByTheDay fresh = new SkirtsByTheDay();
        fresh.keep(1);
        fresh.week();
        Check.due("again(1) of nobody", fresh.again(1), true);
        Check.due("NOW", fresh.count(3), 0);
    }

    /** Refused: PEOPLE or CLOTHS came since. */
    private static void againWhenSomeCame() {
        String[] came = {"p1@0", "c1", "c1;p1@0"};
        for (String lines : came) {
            Twins more = new Twins(() -> {
                SkirtsByTheDay x = Twins.busy();
                Check.text(x, lines).house();
                x.go(0, 3);
                return x;
            });
            more.refused("again(0) behind " + lines, 0, o -> o.again(0) ? 1 : 0);
            more.refused("again(1) behind " + lines, 0, o -> o.again(1) ? 1 : 0);
        }
        String[] nothing = {"", "x", "c1;", "p0@0"};
        for (String lines : nothing) {
            SkirtsByTheDay x = Twins.busy();
            Check.text(x, lines).house();
            Check.due("again(0) behind '" + lines + "'", x.again(0), true);
        }
        SkirtsByTheDay y = Twins.busy();
        Check.text(y, "c1").house();
        y.keep(1);
        y.week();
        Check.due("again(0), kept ahead of it", y.again(0), false);
        Check.due("again(1), kept behind it", y.again(1), true);
    }

    /** count(): what 0 .. 11; -100000 for another. */
    private static void count() {
        int[] due = {3, 2, 3, 4, 3, 32, -30, 3, 3, 12, 3, 4};
        SkirtsByTheDay x = Twins.busy();
        for (int what = 0; what < due.length; what++) {
            Check.due("count(" + what + ")", x.count(what), due[what]);
        }
        int[] wrong = {12, 13, MAX, -1, MIN};
        for (int what : wrong) {
            BUSY.refused("count(" + what + ")", -100000, o -> o.count(what));
        }
    }

    /** row(): NoSuchElementException: none such. */
    private static void row() {
        Check.due("row(0)", Twins.busy().row(0), 12);
        Check.due("row(2)", Twins.busy().row(2), 0);
        int[] wrong = {3, 25, 26, MAX, -1, MIN};
        for (int i : wrong) {
            BUSY.thrown("row(" + i + ")", o -> o.row(i));
        }
        FRESH.thrown("row(0) of none", o -> o.row(0));
        SkirtsByTheDay x = Twins.busy();
        x.ready();
        Check.due("row(0) of one", x.row(0), 1);
        Check.none("row(1) of one", () -> x.row(1));
        x.dress(0);
        Check.none("row(0) of an empty one", () -> x.row(0));
    }

    /** Questions change nothing, however many are asked. */
    private static void questions() {
        BUSY.asked("all questions", 1, o -> {
            for (int what = 0; what <= 4; what++) {
                o.person(1, what);
                o.cloth(2, what);
            }
            o.light(2, 77);
            o.law(1, 1, 77);
            o.piece(2);
            o.patches(20);
            o.ahead(60);
            o.longest(0, 0, 60);
            o.lengths(0, 0, 60);
            o.serves(0, 0, 60);
            o.best(0, 60);
            o.same(9);
            o.plan(0, 20);
            o.plain(0, 20, 2);
            o.idle();
            o.nearest(1);
            o.dress(3);
            o.fines(9);
            o.lags();
            o.heights(1);
            o.late();
            o.timely();
            o.hired(3);
            o.count(5);
            o.row(0);
            return o.ready();
        }, 1);
        BUSY.read("way() and trunk()", "0123", 1, o -> {
            o.way(0);
            Check.text(o, "3210").trunk(1);
            return o.ready();
        }, 1);
    }

    /** A call that tells no ROW, though it is done, leaves it. */
    private static void rowOfCallsThatTellNone() {
        SkirtsByTheDay x = Twins.busy();
        x.wear(0, 2);
        x.go(0, 1);
        x.sell(0, 1);
        x.quilt(1);
        x.undo();
        x.sheet(2, 3, 1, 1);
        x.set(0, 1);
        x.seen(0, 0, 0, 0);
        x.forget();
        x.job(1, 1);
        x.rest();
        x.draw(1, 0, 5);
        x.same(1);
        x.lags();
        x.law(0, 0, 0);
        x.light(0, 0);
        Check.text(x, "5").almanac();
        Check.text(x, "5").rule();
        Check.text(x, "c5").house();
        x.keep(0);
        x.again(0);
        Check.row("the ROW of ahead() stands", x, 12, 6, 0);
    }
}
