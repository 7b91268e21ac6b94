import java.util.NoSuchElementException;
import java.util.Random;

/** Promises 1 to 52: runs by chance, in which the class answers each call as PlainModel does. */
public final class ModelTest {
    private static final int CALLS = 300;
    private static final int THROWN = 123456789;

    private final int run;
    private final Random random;
    private final Texts texts;
    private final SkirtsByTheDay x = new SkirtsByTheDay();
    private final PlainModel m = new PlainModel();

    private ModelTest(int run) {
        this.run = run;
        random = new Random(run);
        texts = new Texts(random);
    }

    public static void main(String[] args) {
        int runs = args.length > 0 ? Integer.parseInt(args[0]) : 150;
        for (int run = 0; run < runs; run++) {
            new ModelTest(run).go();
        }
        Check.finish("ModelTest");
    }

    private void go() {
        if (random.nextInt(3) > 0) {
            tell(texts.almanacs());
            due("almanac()", x.almanac(), m.almanac());
            tell("p50@0;p40@1;p60@0;c25+2;c30;c10+3;c44");
            due("house()", x.house(), m.house());
        }
        for (int k = 0; k < CALLS; k++) {
            call(random.nextInt(64));
            compareCounts();
            if (k % 10 == 0) {
                compareAll();
            }
        }
    }

    private void due(String call, long got, long want) {
        Check.due("run " + run + ": " + call, got, want);
    }

    private void tell(String signs) {
        Check.text(x, signs);
        m.end(0);
        for (int at = 0; at < signs.length(); at += 4) {
            int v = 0;
            for (int k = at; k < at + 4; k++) {
                v = v << 8 | (k < signs.length() ? signs.charAt(k) : 0);
            }
            m.sign(v);
        }
        m.end(signs.length());
    }

    private static int thrown(Check.Call call) {
        try {
            return call.answer();
        } catch (NoSuchElementException none) {
            return THROWN;
        }
    }

    private void compareCounts() {
        for (int what = -1; what <= 12; what++) {
            due("count(" + what + ")", x.count(what), m.count(what));
        }
        for (int i = -1; i <= m.count(10); i++) {
            int at = i;
            due("row(" + i + ")", thrown(() -> x.row(at)), thrown(() -> m.row(at)));
        }
    }

    private void compareAll() {
        for (int i = -1; i <= 8; i++) {
            for (int what = -1; what <= 5; what++) {
                int one = i;
                int of = what;
                due("person(" + i + ", " + what + ")", thrown(() -> x.person(one, of)), thrown(() -> m.person(one, of)));
                due("cloth(" + i + ", " + what + ")", thrown(() -> x.cloth(one, of)), thrown(() -> m.cloth(one, of)));
            }
        }
        for (int i = -1; i <= 20; i++) {
            int at = i;
            due("piece(" + i + ")", thrown(() -> x.piece(at)), thrown(() -> m.piece(at)));
        }
    }

    /** Mostly least .. most, sometimes one beyond, seldom anything. */
    private int number(int least, int most) {
        int kind = random.nextInt(40);
        if (kind == 0) {
            return random.nextInt();
        }
        if (kind == 1) {
            return least - 1;
        }
        return kind == 2 ? most + 1 : least + random.nextInt(most - least + 1);
    }

    private int somebody() {
        return number(0, Math.max(0, m.count(1) - 1));
    }

    private int somecloth() {
        return number(0, Math.max(0, m.count(2) - 1));
    }

    private void call(int which) {
        if (which < 16) {
            callTexts(which);
        } else if (which < 32) {
            callWeeks(which);
        } else if (which < 48) {
            callAhead(which);
        } else {
            callOthers(which);
        }
    }

    private void callTexts(int which) {
        int a = somebody();
        switch (which) {
            case 0:
                tell(texts.almanacs());
                due("almanac()", x.almanac(), m.almanac());
                break;
            case 1:
                tell(random.nextInt(3) > 0 ? "" : texts.house());
                due("house()", x.house(), m.house());
                break;
            case 2:
            case 3:
                tell(random.nextInt(5) == 0 ? "" : texts.rule());
                due("rule()", x.rule(), m.rule());
                break;
            case 4:
            case 5:
            case 6:
                tell(random.nextInt(20) == 0 ? "" : texts.year());
                due("year()", x.year(), m.year());
                break;
            case 7:
            case 8:
                tell(texts.way());
                due("way(" + a + ")", x.way(a), m.way(a));
                break;
            case 9:
            case 10:
                tell(texts.way());
                due("trunk(" + a + ")", x.trunk(a), m.trunk(a));
                break;
            case 11:
                due("sign(" + a + ")", x.sign(a), m.sign(a));
                break;
            case 12:
                int n = number(0, m.count(11));
                due("end(" + n + ")", x.end(n) ? 1 : 0, m.end(n) ? 1 : 0);
                break;
            default:
                callOften(which);
                break;
        }
    }

    private void callOften(int which) {
        int a = somebody();
        int b = number(0, 3);
        int c = number(0, 9999);
        if (which == 13) {
            due("light(" + b + ", " + c + ")", x.light(b, c), m.light(b, c));
        } else if (which == 14) {
            due("law(" + a + ", " + b + ", " + c + ")", x.law(a, b, c), m.law(a, b, c));
        } else {
            int what = number(0, 2);
            int v = number(0, 9);
            due("set(" + what + ", " + v + ")", x.set(what, v), m.set(what, v));
        }
    }

    private void callWeeks(int which) {
        int a = somebody();
        int c = somecloth();
        int v = number(0, 99);
        switch (which) {
            case 16:
            case 17:
                due("wear(" + a + ", " + c + ")", x.wear(a, c), m.wear(a, c));
                break;
            case 18:
                int place = number(0, 3);
                due("go(" + a + ", " + place + ")", x.go(a, place), m.go(a, place));
                break;
            case 19:
            case 20:
                due("make(" + c + ", " + v + ")", x.make(c, v), m.make(c, v));
                break;
            case 21:
            case 22:
                due("week()", x.week(), m.week());
                break;
            case 23:
                int n = number(0, random.nextInt(4) == 0 ? 60 : 5);
                due("weeks(" + n + ")", x.weeks(n), m.weeks(n));
                break;
            case 24:
            case 25:
                due("undo()", x.undo(), m.undo());
                break;
            case 26:
                int kind = number(0, 3);
                int many = number(0, 8);
                int step = random.nextInt(3) == 0 ? random.nextInt() : random.nextInt(40);
                due("sheet(" + kind + ", " + many + ", " + v + ", " + step + ")", x.sheet(kind, many, v, step),
                    m.sheet(kind, many, v, step));
                break;
            default:
                callBox(which);
                break;
        }
    }

    private void callBox(int which) {
        int i = number(0, Math.max(0, m.count(4) - 1));
        int price = number(0, 9);
        // All choices are gone through by the model: the box is emptied before they are too many.
        if (m.count(4) > 11 || which == 27) {
            due("sell(" + i + ", " + price + ")", x.sell(i, price), m.sell(i, price));
        }
        int v = number(1, Math.max(1, Math.min(999, m.count(5) + 5)));
        if (m.count(4) <= 11 && which > 27 && which < 31) {
            due("patches(" + v + ")", x.patches(v), m.patches(v));
        }
        if (m.count(4) <= 11 && which == 31) {
            due("quilt(" + v + ")", x.quilt(v), m.quilt(v));
        }
    }

    private void callAhead(int which) {
        int a = somebody();
        int place = number(0, 3);
        int n = number(0, 60);
        int few = number(1, 20);
        switch (which) {
            case 32:
                due("ahead(" + n + ")", x.ahead(n), m.ahead(n));
                break;
            case 33:
                due("longest(" + a + ", " + place + ", " + n + ")", x.longest(a, place, n), m.longest(a, place, n));
                break;
            case 34:
                due("lengths(" + a + ", " + place + ", " + n + ")", x.lengths(a, place, n), m.lengths(a, place, n));
                break;
            case 35:
                int c = somecloth();
                due("serves(" + c + ", " + a + ", " + n + ")", x.serves(c, a, n), m.serves(c, a, n));
                break;
            case 36:
                due("best(" + a + ", " + n + ")", x.best(a, n), m.best(a, n));
                break;
            case 37:
                int far = number(0, 99);
                due("same(" + far + ")", x.same(far), m.same(far));
                break;
            case 38:
            case 39:
            case 40:
                due("plan(" + a + ", " + few + ")", x.plan(a, few), m.plan(a, few));
                break;
            case 41:
                int hem = number(0, 9);
                due("plain(" + a + ", " + few + ", " + hem + ")", x.plain(a, few, hem), m.plain(a, few, hem));
                break;
            default:
                callFamily(which);
                break;
        }
    }

    private void callFamily(int which) {
        int a = somebody();
        int those = number(0, Math.max(1, (1 << m.count(1)) - 1));
        switch (which) {
            case 42:
                due("idle()", x.idle(), m.idle());
                break;
            case 43:
            case 44:
                due("nearest(" + a + ")", x.nearest(a), m.nearest(a));
                break;
            case 45:
            case 46:
                due("dress(" + those + ")", x.dress(those), m.dress(those));
                break;
            default:
                due("ready()", x.ready(), m.ready());
                break;
        }
    }

    private void callOthers(int which) {
        int a = somebody();
        int i = number(0, 1);
        switch (which) {
            case 48:
            case 49:
                seeOne();
                break;
            case 50:
                if (random.nextInt(3) == 0) {
                    due("forget()", x.forget(), m.forget());
                }
                break;
            case 51:
                int f = number(0, 99);
                due("fines(" + f + ")", x.fines(f), m.fines(f));
                break;
            case 52:
                due("lags()", x.lags(), m.lags());
                break;
            case 53:
                due("heights(" + a + ")", x.heights(a), m.heights(a));
                break;
            case 54:
            case 55:
                int seed = random.nextInt();
                int place = number(0, 4);
                int n = number(1, 26);
                due("draw(" + seed + ", " + place + ", " + n + ")", x.draw(seed, place, n), m.draw(seed, place, n));
                break;
            case 56:
                due("keep(" + i + ")", x.keep(i) ? 1 : 0, m.keep(i) ? 1 : 0);
                break;
            case 57:
                due("again(" + i + ")", x.again(i) ? 1 : 0, m.again(i) ? 1 : 0);
                break;
            default:
                callTailors(which);
                break;
        }
    }

    /** Often what was lawful in a week not far from the one told, so that lags and heights explain something. */
    private void seeOne() {
        int a = somebody();
        int place = number(0, 3);
        int week = random.nextInt(4) == 0 ? number(0, 9999) : number(0, 30);
        int law = m.law(a, place, Math.max(0, week + random.nextInt(3) - 1));
        int v = random.nextInt(4) == 0 ? number(0, 99) : law;
        due("seen(" + a + ", " + place + ", " + week + ", " + v + ")", x.seen(a, place, week, v),
            m.seen(a, place, week, v));
    }

    private void callTailors(int which) {
        int hours = number(1, random.nextInt(2) == 0 ? 5 : 20);
        int due = number(0, random.nextInt(2) == 0 ? 20 : 99);
        int n = number(1, 3);
        switch (which) {
            case 58:
            case 59:
                due("job(" + hours + ", " + due + ")", x.job(hours, due), m.job(hours, due));
                break;
            case 60:
                if (random.nextInt(4) == 0) {
                    due("rest()", x.rest(), m.rest());
                }
                break;
            case 61:
                due("late()", x.late(), m.late());
                break;
            case 62:
                due("timely()", x.timely(), m.timely());
                break;
            default:
                due("hired(" + n + ")", x.hired(n), m.hired(n));
                break;
        }
    }
}
