/** The edges of promises 24 to 37: weeks to come, one cloth for some weeks, a family, travellers. */
public final class QuestionsEdgesTest {
    private static final int MIN = Integer.MIN_VALUE;
    private static final int MAX = Integer.MAX_VALUE;
    private static final int[] NOBODY = {6, MAX, -1, MIN};
    private static final int[] NO_PLACE = {4, MAX, -1, MIN};
    private static final Twins BUSY = new Twins(Twins::busy);
    private static final Twins FULL = new Twins(Twins::full);
    private static final Twins FRESH = new Twins(SkirtsByTheDay::new);

    public static void main(String[] args) {
        ahead();
        longest();
        longestOfEqualOnes();
        lengths();
        serves();
        servesUpToMostHem();
        best();
        bestOfEdgeLaws();
        same();
        plan();
        planUpToMostHem();
        planOfTheMostHem();
        planOfEqualCosts();
        plain();
        idle();
        nearest();
        dress();
        dressOfTooFew();
        ready();
        way();
        waysOfAllWeeks();
        waysUpToMostHem();
        waysThatCannotBe();
        waysOfNobody();
        trunk();
        trunkOfAllWeeks();
        Check.finish("QuestionsEdgesTest");
    }

    /** ahead(): 0 .. 60; all stays. */
    private static void ahead() {
        BUSY.asked("ahead(0)", 0, o -> o.ahead(0), 0, 0, 0);
        BUSY.asked("ahead(1)", 5 * 3 + 3 * 2, o -> o.ahead(1), 5, 3, 0);
        // 25, 35, 45, 30 in turn: of each four WEEKS but the first ones 16 inches are bought, and as many fall off
        BUSY.asked("ahead(60)", 246 * 3 + 151 * 2, o -> o.ahead(60), 246, 151, 235);
        FRESH.asked("ahead(60) of nobody", 0, o -> o.ahead(60), 0, 0, 0);
        int[] wrong = {61, MAX, -1, MIN};
        for (int n : wrong) {
            BUSY.refused("ahead(" + n + ")", o -> o.ahead(n));
        }
    }

    /** longest(): PLACES 0 .. 3, n 1 .. 60. */
    private static void longest() {
        BUSY.asked("longest(0, 0, 1)", 25, o -> o.longest(0, 0, 1), 0, 25, 0);
        BUSY.asked("longest(0, 0, 60)", 45, o -> o.longest(0, 0, 60), 2, 25, 0);
        BUSY.asked("longest(0, 3, 60)", 0, o -> o.longest(0, 3, 60), 0, 0, 0);
        FULL.asked("longest(5, 3, 1)", 79, o -> o.longest(5, 3, 1), 0, 79, 0);
        FULL.asked("longest(5, 3, 60)", 89, o -> o.longest(5, 3, 60), 1, 0, 2);
        for (int p : NOBODY) {
            FULL.refused("longest(" + p + ", 0, 1)", o -> o.longest(p, 0, 1));
        }
        for (int place : NO_PLACE) {
            FULL.refused("longest(0, " + place + ", 1)", o -> o.longest(0, place, 1));
        }
        int[] wrong = {0, 61, MAX, -1, MIN};
        for (int n : wrong) {
            FULL.refused("longest(0, 0, " + n + ")", o -> o.longest(0, 0, n));
        }
        BUSY.refused("longest(2, 0, 1)", o -> o.longest(2, 0, 1));
    }

    /** After how many WEEKS first; the last of n WEEKS counts, the one behind it does not. */
    private static void longestOfEqualOnes() {
        Twins turns = new Twins(() -> Check.told("5375397", "p10@0", ""));
        turns.asked("longest(0, 0, 4)", 7, o -> o.longest(0, 0, 4), 2, 3, 1);
        turns.asked("longest(0, 0, 5)", 7, o -> o.longest(0, 0, 5), 2, 3, 1);
        turns.asked("longest(0, 0, 6)", 9, o -> o.longest(0, 0, 6), 5, 3, 1);
        Twins ends = new Twins(() -> Check.told("11111111111111111111111111", "p10@0;c1", "(w=59)+(w<60)"));
        ends.asked("longest(0, 0, 59)", 1, o -> o.longest(0, 0, 59), 0, 1, 0);
        ends.asked("longest(0, 0, 60), the last is longer", 2, o -> o.longest(0, 0, 60), 59, 1, 0);
    }

    /** lengths(): n 1 .. 60; of equal ones the least. */
    private static void lengths() {
        BUSY.asked("lengths(0, 0, 1)", 1, o -> o.lengths(0, 0, 1), 25, 1);
        BUSY.asked("lengths(0, 0, 4)", 4, o -> o.lengths(0, 0, 4), 25, 1);
        BUSY.asked("lengths(0, 0, 60)", 4, o -> o.lengths(0, 0, 60), 25, 15);
        BUSY.asked("lengths(0, 0, 59)", 4, o -> o.lengths(0, 0, 59), 25, 15);
        BUSY.asked("lengths(0, 3, 60)", 1, o -> o.lengths(0, 3, 60), 0, 60);
        FULL.asked("lengths(5, 3, 60)", 4, o -> o.lengths(5, 3, 60), 0, 15);
        Twins all = new Twins(() -> Check.told("1", "p10@0", "99-w"));
        all.asked("lengths() of 60 different ones", 60, o -> o.lengths(0, 0, 60), 40, 1);
        for (int p : NOBODY) {
            FULL.refused("lengths(" + p + ", 0, 1)", o -> o.lengths(p, 0, 1));
        }
        for (int place : NO_PLACE) {
            FULL.refused("lengths(0, " + place + ", 1)", o -> o.lengths(0, place, 1));
        }
        int[] wrong = {0, 61, MAX, -1, MIN};
        for (int n : wrong) {
            FULL.refused("lengths(0, 0, " + n + ")", o -> o.lengths(0, 0, n));
        }
        BUSY.refused("lengths(2, 0, 1)", o -> o.lengths(2, 0, 1));
    }

    /** serves(): n 0 .. 60. */
    private static void serves() {
        BUSY.asked("serves(0, 0, 0)", 0, o -> o.serves(0, 0, 0), -1);
        BUSY.asked("serves(0, 0, 1)", 1, o -> o.serves(0, 0, 1), -1);
        BUSY.asked("serves(0, 0, 2)", 1, o -> o.serves(0, 0, 2), 1);
        BUSY.asked("serves(0, 0, 60)", 15, o -> o.serves(0, 0, 60), 1);
        BUSY.asked("serves(1, 1, 60)", 0, o -> o.serves(1, 1, 60), 0);
        FULL.asked("serves(7, 5, 60)", 30, o -> o.serves(7, 5, 60), 0);
        for (int p : NOBODY) {
            FULL.refused("serves(0, " + p + ", 1)", o -> o.serves(0, p, 1));
        }
        int[] cloths = {8, MAX, -1, MIN};
        for (int c : cloths) {
            FULL.refused("serves(" + c + ", 0, 1)", o -> o.serves(c, 0, 1));
        }
        int[] wrong = {61, MAX, -1, MIN};
        for (int n : wrong) {
            FULL.refused("serves(0, 0, " + n + ")", o -> o.serves(0, 0, n));
        }
        BUSY.refused("serves(3, 0, 0)", o -> o.serves(3, 0, 0));
        BUSY.refused("serves(0, 2, 0)", o -> o.serves(0, 2, 0));
    }

    /** ALL of it is LAW to LAW and MOST HEM; how it is now does not matter. */
    private static void servesUpToMostHem() {
        Twins twins = new Twins(() -> Check.told("5", "p40@0;c19;c20;c11+9;c23;c14+9;c24;c20+4", ""));
        int[] due = {0, 9, 9, 9, 9, 0, 0};
        for (int c = 0; c < due.length; c++) {
            int cloth = c;
            twins.asked("serves(" + c + ", 0, 9)", due[c], o -> o.serves(cloth, 0, 9), due[c] == 9 ? -1 : 0);
        }
        SkirtsByTheDay x = Check.told("5", "p40@0;c19;c20;c21", "");
        x.set(0, 0);
        Check.due("an inch less", x.serves(0, 0, 1), 0);
        Check.due("MOST HEM 0", x.serves(1, 0, 1), 1);
        Check.due("an inch more", x.serves(2, 0, 1), 0);
    }

    /** best(): n 1 .. 60. */
    private static void best() {
        BUSY.asked("best(0, 1)", 25, o -> o.best(0, 1), 1);
        BUSY.asked("best(0, 4)", 25, o -> o.best(0, 4), 1);
        BUSY.asked("best(0, 60)", 25, o -> o.best(0, 60), 15);
        BUSY.asked("best(1, 60)", 20, o -> o.best(1, 60), 60);
        FULL.asked("best(5, 60)", 19, o -> o.best(5, 60), 30);
        for (int p : NOBODY) {
            FULL.refused("best(" + p + ", 1)", o -> o.best(p, 1));
        }
        int[] wrong = {0, 61, MAX, -1, MIN};
        for (int n : wrong) {
            FULL.refused("best(0, " + n + ")", o -> o.best(0, n));
        }
        BUSY.refused("best(2, 1)", o -> o.best(2, 1));
    }

    private static void bestOfEdgeLaws() {
        Twins none = new Twins(() -> Check.told("0", "p10@0", ""));
        none.asked("best() of LAW 0", 0, o -> o.best(0, 60), 60);
        Twins long99 = new Twins(() -> Check.told("1", "p10@0", "99"));
        long99.asked("best() of LAW 99", 99, o -> o.best(0, 60), 60);
        Twins long1 = new Twins(() -> Check.told("1", "p10@0", ""));
        long1.asked("best() of LAW 1", 1, o -> o.best(0, 60), 60);
        long1.asked("lengths() of LAW 1", 1, o -> o.lengths(0, 0, 60), 1, 60);
        // ALL of 108 serves LAW 99 as well; asked twice it is no better
        SkirtsByTheDay most = Check.told("1", "p10@0", "99");
        most.set(0, 9);
        for (int k = 0; k < 3; k++) {
            Check.due("best() of LAW 99, MOST HEM 9", most.best(0, 60), 99);
            Check.row("best() of LAW 99, MOST HEM 9", most, 60);
            Check.due("lengths() of LAW 99", most.lengths(0, 0, 60), 1);
            Check.row("lengths() of LAW 99", most, 99, 60);
        }
        SkirtsByTheDay x = Check.told("09", "p10@0", "90+l");
        x.set(0, 9);
        Check.due("90 and 99 are MOST HEM from one another", x.best(0, 2), 99);
        Check.row("both", x, 2);
        x.set(0, 8);
        Check.due("90 and 99 are more than MOST HEM from one another", x.best(0, 2), 90);
        Check.row("one", x, 1);
    }

    /** same(): n 0 .. 99. */
    private static void same() {
        Check.due("same(0)", Twins.busy().same(0), 3);
        Check.due("same(1)", Twins.busy().same(1), 2);
        Check.due("same(4)", Twins.busy().same(4), 3);
        Check.due("same(96)", Twins.busy().same(96), 3);
        Check.due("same(99)", Twins.busy().same(99), 2);
        Check.due("same(0) of six", Twins.full().same(0), 63);
        BUSY.refused("same(99) tells no ROW", 2, o -> o.same(99));
        int[] wrong = {100, MAX, -1, MIN};
        for (int n : wrong) {
            BUSY.refused("same(" + n + ")", o -> o.same(n));
        }
        FRESH.refused("same(5) of nobody", 0, o -> o.same(5));
    }

    /** plan(): n 1 .. 20. */
    private static void plan() {
        BUSY.asked("plan(0, 1)", 25 * 3, o -> o.plan(0, 1), 25, 0);
        BUSY.asked("plan(1, 20)", 20 * 3, o -> o.plan(1, 20), 20, 0);
        // 29 and 19 in turn: CUT ten times with a HEM of 3, joined nine times by 7 inches
        FULL.asked("plan(5, 20)", (29 + 9 * 7) * 2 + 10 * 2 + 9 * 3, o -> o.plan(5, 20), 29 + 9 * 7, 0);
        for (int p : NOBODY) {
            FULL.refused("plan(" + p + ", 1)", o -> o.plan(p, 1));
        }
        int[] wrong = {0, 21, MAX, -1, MIN};
        for (int n : wrong) {
            FULL.refused("plan(0, " + n + ")", o -> o.plan(0, n));
        }
        BUSY.refused("plan(2, 1)", o -> o.plan(2, 1));
    }

    private static void planned(String almanac, int mostHem, int n, int cost, int bought, int hem) {
        Twins twins = new Twins(() -> {
            SkirtsByTheDay x = Check.told(almanac, "p50@0", "");
            x.set(0, mostHem);
            return x;
        });
        twins.asked("plan(0, " + n + ") of " + almanac, cost, o -> o.plan(0, n), bought, hem);
    }

    /** Its HEM is 0 .. MOST HEM, at first, where it is CUT, and where it is joined. */
    private static void planUpToMostHem() {
        planned("56", 5, 2, 30 * 2 + 1, 30, 5);
        planned("56", 4, 2, 30 * 2 + 3, 30, 0);
        planned("56", 0, 2, 30 * 2 + 3, 30, 0);
        planned("65", 5, 2, 30 * 2 + 1, 30, 0);
        planned("65", 4, 2, 30 * 2 + 2, 30, 0);
        // CUT from 45 to 10, with 5 inches for a HEM that is let out
        planned("923", 5, 3, 45 * 2 + 2 + 1, 45, 0);
        planned("923", 4, 3, 46 * 2 + 2 + 3, 46, 0);
        // joined from 5 to 10, with 5 inches more that are let out
        planned("123", 5, 3, 15 * 2 + 1 + 3, 15, 0);
        planned("123", 4, 3, 15 * 2 + 3 + 3, 15, 0);
        planned("000", 9, 20, 0, 0, 0);
    }

    /** Taken in by 9, which is MOST HEM, it can't be taken in more: it is CUT. */
    private static void planOfTheMostHem() {
        Twins twins = new Twins(() -> {
            SkirtsByTheDay x = Check.told("1", "p50@0", "20-w*9");
            x.set(0, 9);
            return x;
        });
        twins.asked("plan(0, 2) of 20, 11", 20 * 2 + 1, o -> o.plan(0, 2), 20, 0);
        twins.asked("plan(0, 3) of 20, 11, 2", 20 * 2 + 1 + 2, o -> o.plan(0, 3), 20, 0);
    }

    /** Of as cheap ones the fewest inches, of these the least HEM. */
    private static void planOfEqualCosts() {
        SkirtsByTheDay x = Check.told("5", "p50@0", "");
        x.set(0, 9);
        x.set(1, 0);
        x.set(2, 0);
        Check.due("all for nothing", x.plan(0, 20), 0);
        Check.row("all for nothing", x, 25, 0);
        Check.text(x, "56").almanac();
        Check.due("all for nothing", x.plan(0, 2), 0);
        Check.row("joined, or with HEM at first", x, 30, 0);
    }

    /** plain(): n 1 .. 20, v 0 .. MOST HEM. */
    private static void plain() {
        BUSY.asked("plain(1, 1, 0)", 20 * 3, o -> o.plain(1, 1, 0), 20, 0);
        BUSY.asked("plain(1, 1, 4)", 24 * 3, o -> o.plain(1, 1, 4), 24, 0);
        BUSY.asked("plain(1, 20, 4)", 24 * 3, o -> o.plain(1, 20, 4), 24, 0);
        // 25 and 4; 35: joined; 45: joined; 30: CUT to 34; 25: CUT to 29
        BUSY.asked("plain(0, 5, 4)", 45 * 3 + 10 * 2, o -> o.plain(0, 5, 4), 45, 10);
        int[] hems = {5, MAX, -1, MIN};
        for (int v : hems) {
            BUSY.refused("plain(1, 1, " + v + ")", o -> o.plain(1, 1, v));
        }
        int[] wrong = {0, 21, MAX, -1, MIN};
        for (int n : wrong) {
            BUSY.refused("plain(1, " + n + ", 0)", o -> o.plain(1, n, 0));
        }
        for (int p : NOBODY) {
            FULL.refused("plain(" + p + ", 1, 0)", o -> o.plain(p, 1, 0));
        }
        BUSY.refused("plain(2, 1, 0)", o -> o.plain(2, 1, 0));
        SkirtsByTheDay x = Twins.busy();
        x.set(0, 9);
        Check.due("plain(1, 1, 9), MOST HEM 9", x.plain(1, 1, 9), 29 * 3);
        Check.due("plain(1, 1, 10), MOST HEM 9", x.plain(1, 1, 10), -1);
        x.set(0, 0);
        Check.due("plain(1, 1, 0), MOST HEM 0", x.plain(1, 1, 0), 20 * 3);
        Check.due("plain(1, 1, 1), MOST HEM 0", x.plain(1, 1, 1), -1);
    }

    private static void idle() {
        FRESH.asked("idle() of none", 0, o -> o.idle(), 0, 0);
        FULL.asked("idle()", 126, o -> o.idle(), 4, 30);
        BUSY.asked("idle()", 4, o -> o.idle(), 0, 0);
        Twins nobody = new Twins(() -> Check.told("", "c1;c1;c1;c1;c1;c1;c1;c1", ""));
        nobody.asked("idle() of eight CLOTHS and nobody", 255, o -> o.idle(), 0, 0);
        Twins naked = new Twins(() -> Check.told("", "p1@0;p1@0;p1@0;p1@0;p1@0;p1@0", ""));
        naked.asked("idle() of six PEOPLE and no CLOTHS", 0, o -> o.idle(), 6, 63);
    }

    /** nearest(): -2: there is none; NONE: none such; none that another one wears. */
    private static void nearest() {
        BUSY.asked("nearest(0)", 0, o -> o.nearest(0), 0);
        BUSY.asked("nearest(1)", 1, o -> o.nearest(1), 5 * 3 + 3 * 2);
        FULL.asked("nearest(5)", 7, o -> o.nearest(5), 7 * 2 + 3);
        FULL.asked("nearest(4), LAW 5", 5, o -> o.nearest(4), 0);
        for (int p : NOBODY) {
            FULL.refused("nearest(" + p + ")", o -> o.nearest(p));
        }
        BUSY.refused("nearest(2)", o -> o.nearest(2));
        Twins none = new Twins(() -> Check.told("5", "p50@0", ""));
        none.refused("nearest(0) of no CLOTHS", -2, o -> o.nearest(0));
        none.refused("nearest(1) of no CLOTHS", o -> o.nearest(1));
        Twins worn = new Twins(() -> {
            SkirtsByTheDay x = Check.told("5", "p50@0;p50@0;c25", "");
            x.wear(1, 0);
            return x;
        });
        worn.refused("nearest(0) of a CLOTH that another one wears", -2, o -> o.nearest(0));
        worn.asked("nearest(1) of its own", 0, o -> o.nearest(1), 0);
        Twins equal = new Twins(() -> Check.told("5", "p50@0;c40;c26;c24+1;c23+2", ""));
        equal.asked("nearest(0), of as cheap ones the first", 1, o -> o.nearest(0), 1);
    }

    /** dress(): bits of PEOPLE who are there; NONE: bits of none such. */
    private static void dress() {
        FRESH.asked("dress(0) of nobody", 0, o -> o.dress(0));
        BUSY.asked("dress(0)", 0, o -> o.dress(0));
        BUSY.asked("dress(1)", 0, o -> o.dress(1), 0);
        BUSY.asked("dress(3)", 21, o -> o.dress(3), 0, 1);
        FULL.asked("dress(32)", 17, o -> o.dress(32), 7);
        // LAWS 1, 6, 15, 32, 5, 29; CLOTHS 1, 1, 2, 3, 4, 5, 6 and ALL of 22: three are joined, by 47 inches
        FULL.asked("dress(63)", 47 * 2 + 3 * 3, o -> o.dress(63), 0, 6, 3, 4, 5, 7);
        int[] wrong = {4, 5, 7, 8, 1 << 30, MAX, -1, MIN};
        for (int those : wrong) {
            BUSY.refused("dress(" + those + ")", o -> o.dress(those));
        }
        int[] beyond = {64, 65, 127, MAX, -1, MIN, MIN + 1};
        for (int those : beyond) {
            FULL.refused("dress(" + those + ")", o -> o.dress(those));
        }
        FRESH.refused("dress(1) of nobody", o -> o.dress(1));
    }

    /** dress(): -2: there are not so many CLOTHS. */
    private static void dressOfTooFew() {
        Twins few = new Twins(() -> Check.told("5", "p50@0;p40@0;p30@0;c25;c20", ""));
        few.asked("dress(3) of two CLOTHS", 0, o -> o.dress(3), 0, 1);
        few.asked("dress(6) of two CLOTHS", 2, o -> o.dress(6), 1, 0);
        few.refused("dress(7) of two CLOTHS", -2, o -> o.dress(7));
        few.refused("dress(15) of two CLOTHS and three PEOPLE", o -> o.dress(15));
        Twins none = new Twins(() -> Check.told("5", "p50@0", ""));
        none.asked("dress(0) of no CLOTHS", 0, o -> o.dress(0));
        none.refused("dress(1) of no CLOTHS", -2, o -> o.dress(1));
        none.refused("dress(2) of no CLOTHS", o -> o.dress(2));
    }

    private static void ready() {
        FRESH.asked("ready() of nobody", 0, o -> o.ready(), 0);
        BUSY.asked("ready()", 1, o -> o.ready(), 1);
        Twins none = new Twins(() -> Check.told("5", "p50@0;p50@3", ""));
        none.asked("ready() of no CLOTHS", 0, o -> o.ready(), 0);
        Twins all = new Twins(() -> Check.told("5", Check.times("p50@0;", 6) + "c24;c25;c25;c25;c25;c25;c25;c26", ""));
        all.asked("ready() of six", 6, o -> o.ready(), 63);
        Twins five = new Twins(() -> Check.told("5", Check.times("p50@0;", 6) + "c24;c25;c25;c25;c25;c25;c24;c26", ""));
        five.asked("ready() of five, the least bits", 5, o -> o.ready(), 31);
        Twins hems = new Twins(() -> Check.told("5", "p50@0;c24+1;c26", ""));
        hems.asked("ready() without SEWING", 0, o -> o.ready(), 0);
    }

    /** way(): 1 to 26 digits 0 .. 3, from NOW on. */
    private static void way() {
        BUSY.read("way(0)", "0", 1, o -> o.way(0), 25);
        BUSY.read("way(0)", "3", 1, o -> o.way(0), 0);
        BUSY.read("way(0)", "01", 1, o -> o.way(0), 25);
        BUSY.read("way(0)", "0000", 4, o -> o.way(0), 25, 30, 35, 45);
        BUSY.read("way(1)", Check.times("1", 26), 1, o -> o.way(1), 20);
        BUSY.read("way(1)", Check.times("1", 25) + "3", 2, o -> o.way(1), 0, 20);
        FULL.read("way(5)", "3", 1, o -> o.way(5), 79);
    }

    /** A CLOTH for each of 26 WEEKS: the longest ROW that there is. */
    private static void waysOfAllWeeks() {
        SkirtsByTheDay x = Check.told("1", "p10@0", "w*4-1");
        x.set(0, 2);
        Check.due("way(0)", Check.text(x, Check.times("0", 26)).way(0), 26);
        Check.due("numbers of the ROW", x.count(10), 26);
        Check.due("the first", x.row(0), 0);
        for (int i = 1; i < 26; i++) {
            Check.due("row(" + i + ")", x.row(i), i * 4 - 1);
        }
        Check.none("row(26)", () -> x.row(26));
        Check.due("trunk(0)", Check.text(x, Check.times("0", 26)).trunk(0), 4 * 325 - 25);
        Check.row("trunk(0)", x, 25);
    }

    /** Each has an ALL of its own, and any HEM 0 .. MOST HEM. */
    private static void waysUpToMostHem() {
        SkirtsByTheDay x = Check.told("05", "p10@0", "20+l");
        x.set(0, 5);
        Check.due("20 and 25, MOST HEM 5", Check.text(x, "00").way(0), 1);
        Check.row("20 and 25, MOST HEM 5", x, 25);
        x.set(0, 4);
        Check.due("20 and 25, MOST HEM 4", Check.text(x, "00").way(0), 2);
        Check.row("20 and 25, MOST HEM 4", x, 20, 25);
        x.set(0, 0);
        Check.due("20, MOST HEM 0", Check.text(x, "0").way(0), 1);
        Check.row("20, MOST HEM 0", x, 20);
        Check.text(x, "99").rule();
        x.set(0, 9);
        Check.due("99, MOST HEM 9", Check.text(x, "00").way(0), 1);
        Check.row("99, MOST HEM 9", x, 99);
    }

    /** -1 - p: its end for none; a 27th sign: at it. */
    private static void waysThatCannotBe() {
        wrong("", 0);
        wrong("4", 0);
        wrong("/", 0);
        wrong("x", 0);
        wrong("34", 1);
        wrong("0 1", 1);
        wrong(Check.times("0", 25) + "4", 25);
        wrong(Check.times("0", 26) + "4", 26);
        wrong(Check.times("0", 27), 26);
        wrong(Check.times("0", 26) + "x", 26);
        wrong(Check.times("0", 80), 26);
    }

    private static void wrong(String text, int at) {
        BUSY.emptied("way(0)", text, -1 - at, o -> o.way(0));
        BUSY.emptied("trunk(0)", text, -1 - at, o -> o.trunk(0));
    }

    /** -100: none such (asked first). */
    private static void waysOfNobody() {
        String[] texts = {"", "0", "x", Check.times("0", 27)};
        for (String text : texts) {
            for (int p : NOBODY) {
                FULL.emptied("way(" + p + ")", text, -100, o -> o.way(p));
                FULL.emptied("trunk(" + p + ")", text, -100, o -> o.trunk(p));
            }
            BUSY.emptied("way(2)", text, -100, o -> o.way(2));
            BUSY.emptied("trunk(2)", text, -100, o -> o.trunk(2));
        }
    }

    private static void trunk() {
        BUSY.read("trunk(0)", "0", 25, o -> o.trunk(0), 0);
        BUSY.read("trunk(0)", "3", 0, o -> o.trunk(0), 0);
        BUSY.read("trunk(0)", "0000", 25 + 30 + 35 + 45, o -> o.trunk(0), 3);
        BUSY.read("trunk(1)", Check.times("1", 26), 20, o -> o.trunk(1), 0);
        BUSY.read("trunk(1)", Check.times("1", 25) + "3", 20, o -> o.trunk(1), 1);
        FULL.read("trunk(5)", "3", 79, o -> o.trunk(5), 0);
    }

    /** Who need not change does not; who must takes the shortest that can be worn. */
    private static void trunkOfAllWeeks() {
        SkirtsByTheDay x = Check.told("02468", "p10@0", "l");
        x.set(0, 4);
        // 8 serves 4, 6 and 8; the least that serves 0 and 2 is 2
        Check.due("way(0)", Check.text(x, "00000").way(0), 2);
        Check.row("way(0)", x, 2, 8);
        Check.due("trunk(0)", Check.text(x, "00000").trunk(0), 10);
        Check.row("0, 2 with the one; 4, 6, 8 with the other", x, 1);
        Check.due("trunk(0)", Check.text(x, Check.times("0", 26)).trunk(0), 10);
        Check.row("there and back five times", x, 5 + 5);
    }
}
