/** Promises 24 to 31: weeks to come, and one cloth for some weeks. */
public final class WeeksToComeTest {
    public static void main(String[] args) {
        ahead();
        longest();
        lengths();
        serves();
        best();
        same();
        plan();
        planOfWaves();
        plain();
        Check.finish("WeeksToComeTest");
    }

    private static SkirtsByTheDay family() {
        return Check.told("5796/55", "p50@0;p40@1;c25+2;c30;c10+3", "");
    }

    private static void ahead() {
        SkirtsByTheDay x = family();
        x.wear(0, 0);
        x.wear(1, 1);
        x.week();
        int purse = x.count(6);
        Check.due("ahead(60)", x.ahead(60) > 0, true);
        int cost = x.ahead(7);
        int bought = x.row(0);
        int sewing = x.row(1);
        int off = x.row(2);
        Check.due("three numbers", x.count(10), 3);
        Check.due("nothing changes: NOW", x.count(3), 1);
        Check.due("nothing changes: the purse", x.count(6), purse);
        Check.due("nothing changes: a cloth", x.cloth(0, 2) * 10 + x.cloth(0, 3), 270);
        Check.due("nothing changes: the box", x.count(4), 1);
        Check.due("nothing changes: what can be undone", x.count(9), 3);
        Check.due("weeks(7)", x.weeks(7), cost);
        Check.row("ahead(7) told the same", x, bought, sewing, off);
        Check.due("ahead(61)", x.ahead(61), -1);
        Check.due("ahead(-1)", x.ahead(-1), -1);
        Check.row("they leave the row", x, bought, sewing, off);
        Check.due("ahead(0)", x.ahead(0), 0);
        Check.row("ahead(0)", x, 0, 0, 0);
    }

    private static void longest() {
        SkirtsByTheDay x = Check.told("579637/55", "p50@1;p10@0", "");
        x.week();
        Check.due("longest(0, 0, 60)", x.longest(0, 0, 60), 45);
        Check.row("longest(0, 0, 60)", x, 1, 15, 3);
        Check.due("longest(0, 0, 4)", x.longest(0, 0, 4), 45);
        Check.row("longest(0, 0, 4)", x, 1, 15, 3);
        Check.due("longest(1, 2, 2)", x.longest(1, 2, 2), 0);
        x.weeks(2);
        Check.due("longest(0, 0, 2)", x.longest(0, 0, 2), 30);
        Check.row("longest(0, 0, 2)", x, 0, 15, 1);
        x.undo();
        Check.due("longest(0, 0, 1)", x.longest(0, 0, 1), 35);
        Check.row("longest(0, 0, 1)", x, 0, 35, 0);
        Check.due("longest(1, 0, 3)", x.longest(1, 0, 3), 9);
        Check.row("longest(1, 0, 3)", x, 1, 6, 2);
        Check.due("longest(0, 1, 9): the first of equal ones", x.longest(0, 1, 9), 25);
        Check.row("longest(0, 1, 9)", x, 0, 25, 0);
        Check.due("longest(0, 3, 9) without an almanac", x.longest(0, 3, 9), 0);
        Check.due("longest(2, 0, 1)", x.longest(2, 0, 1), -1);
        Check.due("longest(-1, 0, 1)", x.longest(-1, 0, 1), -1);
        Check.due("longest(0, 4, 1)", x.longest(0, 4, 1), -1);
        Check.due("longest(0, -1, 1)", x.longest(0, -1, 1), -1);
        Check.due("longest(0, 0, 0)", x.longest(0, 0, 0), -1);
        Check.due("longest(0, 0, 61)", x.longest(0, 0, 61), -1);
        Check.row("they leave the row", x, 0, 0, 0);
    }

    private static void lengths() {
        SkirtsByTheDay x = Check.told("595793/99", "p50@1;p10@0", "");
        Check.due("lengths(0, 0, 6)", x.lengths(0, 0, 6), 4);
        Check.row("of equal ones the least", x, 25, 2);
        Check.due("lengths(0, 0, 5)", x.lengths(0, 0, 5), 3);
        x.week();
        Check.due("lengths(0, 0, 4)", x.lengths(0, 0, 4), 3);
        Check.row("the one that is the most often", x, 45, 2);
        Check.due("lengths(1, 1, 60)", x.lengths(1, 1, 60), 1);
        Check.row("always", x, 9, 60);
        Check.due("lengths(1, 2, 60)", x.lengths(1, 2, 60), 1);
        Check.row("without an almanac", x, 0, 60);
        Check.due("lengths(2, 0, 1)", x.lengths(2, 0, 1), -1);
        Check.due("lengths(0, 4, 1)", x.lengths(0, 4, 1), -1);
        Check.due("lengths(0, 0, 0)", x.lengths(0, 0, 0), -1);
        Check.due("lengths(0, 0, 61)", x.lengths(0, 0, 61), -1);
    }

    private static void serves() {
        SkirtsByTheDay x = Check.told("5679", "p50@0;p10@3;c25+5;c28;c50;c1+2", "");
        Check.due("all 30 serves 30 alone", x.serves(0, 0, 4), 1);
        Check.row("not in the first", x, 0);
        Check.due("all 28 serves 25", x.serves(1, 0, 60), 15);
        Check.row("not in the second", x, 1);
        Check.due("all 50", x.serves(2, 0, 4), 0);
        x.set(0, 5);
        Check.due("all 30 with a hem of 5 serves 25 and 30", x.serves(0, 0, 4), 2);
        Check.row("not in the third", x, 2);
        Check.due("all 50 with a hem of 5 serves 45", x.serves(2, 0, 8), 2);
        Check.due("all 3 serves 0", x.serves(3, 1, 60), 60);
        Check.row("in all", x, -1);
        Check.due("serves(0, 0, 0)", x.serves(0, 0, 0), 0);
        Check.row("in none", x, -1);
        Check.due("serves(4, 0, 1)", x.serves(4, 0, 1), -1);
        Check.due("serves(-1, 0, 1)", x.serves(-1, 0, 1), -1);
        Check.due("serves(0, 2, 1)", x.serves(0, 2, 1), -1);
        Check.due("serves(0, 0, 61)", x.serves(0, 0, 61), -1);
        Check.due("serves(0, 0, -1)", x.serves(0, 0, -1), -1);
    }

    private static void best() {
        SkirtsByTheDay x = Check.told("567/9", "p50@0;p99@1;p9@3", "");
        Check.due("best(0, 3)", x.best(0, 3), 25);
        Check.row("best(0, 3)", x, 1);
        x.set(0, 5);
        Check.due("best(0, 3), more hem", x.best(0, 3), 30);
        Check.row("best(0, 3), more hem", x, 2);
        Check.due("best(0, 2), more hem", x.best(0, 2), 30);
        x.set(0, 9);
        Check.due("best(0, 3), hem 9", x.best(0, 3), 30);
        Check.due("best(0, 5), hem 9", x.best(0, 5), 30);
        Check.row("best(0, 5), hem 9", x, 4);
        Check.due("best(2, 60)", x.best(2, 60), 0);
        Check.row("best(2, 60)", x, 60);
        Check.text(x, "99").rule();
        Check.due("best(1, 1)", x.best(1, 1), 99);
        Check.due("best(0, 0)", x.best(0, 0), -1);
        Check.due("best(0, 61)", x.best(0, 61), -1);
        Check.due("best(3, 1)", x.best(3, 1), -1);
        Check.due("best(-1, 1)", x.best(-1, 1), -1);
        Check.text(x, "90+w*9").rule();
        Check.due("best() up to 108", x.best(1, 2), 99);
        Check.row("best() up to 108", x, 2);
    }

    private static void same() {
        SkirtsByTheDay x = Check.told("575/55/1", "p50@0;p50@1;p9@3;p9@2", "");
        Check.due("same(1)", x.same(1), 14);
        Check.due("same(2)", x.same(2), 15);
        Check.due("same(0)", x.same(0), 15);
        x.week();
        Check.due("same(1) a week later", x.same(1), 14);
        Check.due("same(3) a week later", x.same(3), 15);
        Check.due("same(99)", x.same(99), 15);
        Check.due("same(100)", x.same(100), -1);
        Check.due("same(-1)", x.same(-1), -1);
        Check.due("same(0) of nobody", new SkirtsByTheDay().same(0), 0);
    }

    private static void plan() {
        SkirtsByTheDay x = Check.told("56/99", "p50@0;p99@1;c1", "");
        planned(x, 0, 1, 50, 25, 0);
        planned(x, 0, 2, 25 * 2 + 5 * 2 + 3, 30, 0);
        x.set(0, 5);
        planned(x, 0, 2, 30 * 2 + 1, 30, 5);
        planned(x, 0, 20, 30 * 2 + 19, 30, 5);
        x.set(1, 0);
        planned(x, 0, 3, 2, 30, 5);
        x.set(1, 2);
        x.set(2, 0);
        planned(x, 0, 2, 60, 30, 0);
        x.set(2, 9);
        planned(x, 0, 2, 69, 30, 5);
        planned(x, 1, 20, 89 * 2, 89, 0);
        Check.due("plan(0, 0)", x.plan(0, 0), -1);
        Check.due("plan(0, 21)", x.plan(0, 21), -1);
        Check.due("plan(2, 1)", x.plan(2, 1), -1);
        Check.due("plan(-1, 1)", x.plan(-1, 1), -1);
        Check.row("they leave the row", x, 89, 0);
        Check.due("nothing changes", x.count(3) + x.count(6) + x.cloth(0, 0), 1);
    }

    private static void planned(SkirtsByTheDay x, int person, int n, int cost, int bought, int hem) {
        String call = "plan(" + person + ", " + n + ")";
        Check.due(call, x.plan(person, n), cost);
        Check.row(call, x, bought, hem);
    }

    private static void planOfWaves() {
        SkirtsByTheDay cut = Check.told("9212", "p50@0", "");
        cut.set(0, 5);
        planned(cut, 0, 4, 45 * 2 + 2 + 1 + 1, 45, 0);
        Check.due("cut as above alone it is cut twice", cut.plain(0, 4, 0), 45 * 2 + 2 + 2 + 1);
        SkirtsByTheDay joined = Check.told("123", "p50@0", "");
        joined.set(0, 5);
        planned(joined, 0, 3, 15 * 2 + 3 + 1, 15, 0);
        Check.due("joined as above alone it is joined twice", joined.plain(0, 3, 0), 15 * 2 + 3 + 3);
        // 4, 8, 12, 8, 4: joined with a hem of 4 that is let out, taken in, and cut
        SkirtsByTheDay wave = Check.told("12321", "p40@0", "");
        wave.set(0, 4);
        wave.set(1, 1);
        wave.set(2, 3);
        planned(wave, 0, 5, 12 + 9 + 3 + 3 + 6, 12, 0);
    }

    private static void plain() {
        SkirtsByTheDay x = Check.told("5796", "p50@0;c1", "");
        Check.due("plain(0, 1, 0)", x.plain(0, 1, 0), 50);
        Check.row("plain(0, 1, 0)", x, 25, 0);
        Check.due("plain(0, 1, 3)", x.plain(0, 1, 3), 56);
        Check.row("plain(0, 1, 3)", x, 28, 0);
        Check.due("plain(0, 4, 3)", x.plain(0, 4, 3), 90 + 8);
        Check.row("plain(0, 4, 3)", x, 45, 8);
        x.set(0, 9);
        Check.due("plain(0, 5, 9)", x.plain(0, 5, 9), 45 * 2 + 3 + 3 + 2 + 2);
        Check.row("plain(0, 5, 9)", x, 45, 10);
        Check.due("plain(0, 20, 9)", x.plain(0, 20, 9) > 0, true);
        Check.due("plain(0, 21, 0)", x.plain(0, 21, 0), -1);
        Check.due("plain(0, 0, 0)", x.plain(0, 0, 0), -1);
        Check.due("plain(1, 1, 0)", x.plain(1, 1, 0), -1);
        Check.due("plain(-1, 1, 0)", x.plain(-1, 1, 0), -1);
        Check.due("plain(0, 1, -1)", x.plain(0, 1, -1), -1);
        Check.due("plain(0, 1, 10)", x.plain(0, 1, 10), -1);
        x.set(0, 2);
        Check.due("plain(0, 1, 3), more than the most hem", x.plain(0, 1, 3), -1);
        Check.due("nothing changes", x.count(3) + x.count(6) + x.cloth(0, 0), 1);
    }
}
