import java.util.ArrayList;
import java.util.List;
import java.util.NoSuchElementException;

/**
 * Two objects that went through the same calls. One of them makes one call more; what that call must not change is
 * what no later call may tell: all that can be asked of both is asked, and what can be undone or was kept is gone
 * back to. An object stays below 512 calls.
 */
final class Twins {
    interface Maker {
        SkirtsByTheDay made();
    }

    interface Call {
        int answer(SkirtsByTheDay x);
    }

    private static final int THROWN = Integer.MIN_VALUE;

    private final Maker maker;

    Twins(Maker maker) {
        this.maker = maker;
    }

    /** The call answers this, and all is as it was, the ROW and THE TEXT too. */
    void refused(String call, int due, Call made) {
        SkirtsByTheDay x = maker.made();
        Check.due(call, made.answer(x), due);
        same(call, x, maker.made(), true);
    }

    void refused(String call, Call made) {
        refused(call, -1, made);
    }

    /** The call throws NoSuchElementException, and all is as it was. */
    void thrown(String call, Call made) {
        SkirtsByTheDay x = maker.made();
        Check.none(call, () -> made.answer(x));
        same(call, x, maker.made(), true);
    }

    /** The call reads this text and answers this; THE TEXT is empty then, all else is as it was. */
    void emptied(String call, String text, int due, Call made) {
        SkirtsByTheDay x = Check.text(maker.made(), text);
        Check.due(call + " of " + text, made.answer(x), due);
        SkirtsByTheDay y = maker.made();
        y.end(0);
        same(call + " of " + text, x, y, true);
    }

    /** The question answers this and tells this ROW; all else is as it was. */
    void asked(String call, int due, Call made, int... row) {
        SkirtsByTheDay x = maker.made();
        Check.due(call, made.answer(x), due);
        Check.row(call, x, row);
        same(call, x, maker.made(), false);
    }

    /** The question reads this text, answers this and tells this ROW; THE TEXT is empty then, all else is as it was. */
    void read(String call, String text, int due, Call made, int... row) {
        SkirtsByTheDay x = Check.text(maker.made(), text);
        Check.due(call + " of " + text, made.answer(x), due);
        Check.row(call + " of " + text, x, row);
        SkirtsByTheDay y = maker.made();
        y.end(0);
        same(call + " of " + text, x, y, false);
    }

    /** The call is done; when it is undone, all is as it was, but for the ROW and THE TEXT. */
    void undone(String call, Call made) {
        SkirtsByTheDay x = maker.made();
        SkirtsByTheDay y = maker.made();
        int before = y.count(9);
        made.answer(x);
        Check.due(call + ", what can be undone", x.count(9), before + 1);
        Check.due(call + ", undo()", x.undo(), before);
        x.end(0);
        y.end(0);
        same(call + " and undo()", x, y, false);
    }

    private static void same(String call, SkirtsByTheDay x, SkirtsByTheDay y, boolean withRow) {
        List<String> got = allOf(x, withRow);
        List<String> want = allOf(y, withRow);
        int k = 0;
        while (k < got.size() && k < want.size() && got.get(k).equals(want.get(k))) {
            k++;
        }
        if (k < got.size() || k < want.size()) {
            String is = k < got.size() ? got.get(k) : "nothing";
            String was = k < want.size() ? want.get(k) : "nothing";
            Check.due(call + " changed something: " + is + ", it was " + was, 1, 0);
        }
    }

    private static List<String> allOf(SkirtsByTheDay x, boolean withRow) {
        List<String> told = new ArrayList<>();
        for (int what = 0; what <= 11; what++) {
            if (what != 10 || withRow) {
                ask(told, "count(" + what + ")", x.count(what));
            }
        }
        if (withRow) {
            row(told, x);
        }
        house(told, x);
        terms(told, x);
        seen(told, x);
        jobs(told, x);
        goneBack(told, x);
        ask(told, "THE TEXT as almanac()", x.almanac());
        lights(told, x);
        return told;
    }

    private static void ask(List<String> told, String call, int answer) {
        told.add(call + ": " + (answer == THROWN ? "thrown" : answer));
    }

    private static void row(List<String> told, SkirtsByTheDay x) {
        for (int i = 0; i < x.count(10); i++) {
            ask(told, "row(" + i + ")", x.row(i));
        }
    }

    private static void house(List<String> told, SkirtsByTheDay x) {
        for (int what = 0; what <= 4; what++) {
            for (int p = 0; p < x.count(1); p++) {
                ask(told, "person(" + p + ", " + what + ")", x.person(p, what));
            }
            for (int c = 0; c < x.count(2); c++) {
                ask(told, "cloth(" + c + ", " + what + ")", x.cloth(c, what));
            }
        }
        for (int i = 0; i < x.count(4); i++) {
            ask(told, "piece(" + i + ")", x.piece(i));
        }
        lights(told, x);
        ask(told, "law(0, 0, 1)", x.law(0, 0, 1));
    }

    private static void lights(List<String> told, SkirtsByTheDay x) {
        int[] weeks = {0, 1, 3, 25, 26};
        for (int place = 0; place < 4; place++) {
            for (int week : weeks) {
                ask(told, "light(" + place + ", " + week + ")", x.light(place, week));
            }
        }
    }

    private static void terms(List<String> told, SkirtsByTheDay x) {
        for (int what = 0; what <= 2; what++) {
            int was = x.set(what, 0);
            ask(told, "what was set as " + what, was);
            x.set(what, was);
        }
    }

    private static void seen(List<String> told, SkirtsByTheDay x) {
        ask(told, "fines(1)", x.fines(1));
        row(told, x);
        ask(told, "lags()", x.lags());
        ask(told, "heights(0)", x.heights(0));
        row(told, x);
    }

    private static void jobs(List<String> told, SkirtsByTheDay x) {
        ask(told, "late()", x.late());
        row(told, x);
        ask(told, "hired(2)", x.hired(2));
        row(told, x);
    }

    private static void goneBack(List<String> told, SkirtsByTheDay x) {
        for (int k = 0; k < 13; k++) {
            ask(told, "undo()", x.undo());
            moment(told, x);
        }
        for (int i = 0; i <= 1; i++) {
            ask(told, "again(" + i + ")", x.again(i) ? 1 : 0);
            moment(told, x);
        }
    }

    private static void moment(List<String> told, SkirtsByTheDay x) {
        for (int what = 3; what <= 6; what++) {
            ask(told, "count(" + what + ")", x.count(what));
        }
        ask(told, "idle()", x.idle());
        ask(told, "person(0, 1)", told(x, true));
        ask(told, "cloth(0, 0)", told(x, false));
    }

    private static int told(SkirtsByTheDay x, boolean person) {
        try {
            return person ? x.person(0, 1) : x.cloth(0, 0);
        } catch (NoSuchElementException none) {
            return THROWN;
        }
    }

    /** Much has been done: something stands in all that can be asked, and a call more would push out what was first. */
    static SkirtsByTheDay busy() {
        SkirtsByTheDay x = Check.told("5796/55/3", "p50@0;p40@1;c25+2;c30;c10+3", "");
        x.wear(0, 0);
        x.wear(1, 1);
        x.week();
        x.keep(0);
        x.week();
        x.make(2, 0);
        x.go(1, 2);
        x.week();
        x.keep(1);
        x.go(0, 1);
        x.week();
        x.sell(1, 2);
        x.go(0, 0);
        x.go(1, 3);
        x.go(1, 1);
        x.seen(0, 0, 0, 25);
        x.seen(1, 1, 3, 30);
        x.seen(0, 2, 1, 15);
        x.job(3, 3);
        x.job(2, 2);
        x.job(4, 9);
        x.set(0, 4);
        x.set(1, 3);
        x.set(2, 2);
        x.ahead(2);
        return Check.text(x, "12/3");
    }

    /** A little has been done, so that what is done next pushes out nothing. */
    static SkirtsByTheDay calm() {
        SkirtsByTheDay x = Check.told("5796/55/3", "p50@0;p40@1;c25+2;c30;c10+3", "");
        x.wear(0, 0);
        x.wear(1, 1);
        x.week();
        x.make(2, 0);
        return x;
    }

    /** Six of PEOPLE, eight CLOTHS, four PLACES: no room for one more. */
    static SkirtsByTheDay full() {
        String people = "p10@0;p20@1;p30@2;p40@3;p50@0;p99@1";
        SkirtsByTheDay x = Check.told("1/23/456/7890", people + ";c0;c1;c2;c3;c4;c5;c6;c99+9", "");
        x.wear(0, 0);
        x.wear(5, 7);
        x.week();
        return Check.text(x, "7");
    }

    /** 20 pieces of an inch are in THE BOX; CLOTH 0 is 79 long, MOST HEM is 0. */
    static SkirtsByTheDay fullBox() {
        SkirtsByTheDay x = Check.told("5", "p50@0;p40@0;c99;c30;c30", "");
        x.set(0, 0);
        for (int v = 98; v >= 79; v--) {
            x.make(0, v);
        }
        return x;
    }
}
