/** Promises 36 and 37: way, trunk. */
public final class TravellersTest {
    public static void main(String[] args) {
        way();
        wayByHems();
        wayByWeeks();
        wrongWays();
        trunk();
        Check.finish("TravellersTest");
    }

    private static void ways(SkirtsByTheDay x, String signs, int... alls) {
        Check.due("way() of " + signs, Check.text(x, signs).way(0), alls.length);
        Check.row("way() of " + signs, x, alls);
        Check.due("THE TEXT is empty then", x.count(11), 0);
    }

    /** Places 0 to 2 with laws 5, 10, 15; none at place 3. */
    private static SkirtsByTheDay traveller() {
        return Check.told("1/2/3", "p50@0;p99@0", "");
    }

    private static void way() {
        SkirtsByTheDay x = traveller();
        ways(x, "0", 5);
        ways(x, "00000", 5);
        ways(x, "01", 5, 10);
        ways(x, "2101", 5, 10, 15);
        ways(x, "3", 0);
        ways(x, "30123", 0, 5, 10, 15);
        ways(x, Check.times("012", 8) + "01", 5, 10, 15);
    }

    private static void wayByHems() {
        SkirtsByTheDay x = traveller();
        x.set(0, 5);
        ways(x, "01", 10);
        ways(x, "012", 5, 15);
        ways(x, "30", 5);
        ways(x, "3012", 5, 15);
        ways(x, "302", 5, 15);
        x.set(0, 9);
        ways(x, "0123", 5, 15);
        ways(x, "023", 5, 15);
        Check.text(x, "l").rule();
        ways(x, "0123", 3);
        x.set(0, 1);
        ways(x, "0123", 1, 3);
        x.set(0, 0);
        ways(x, "0123", 0, 1, 2, 3);
        Check.text(x, "99").rule();
        x.set(0, 9);
        ways(x, "0", 99);
        ways(x, "03", 0, 99);
    }

    private static void wayByWeeks() {
        SkirtsByTheDay x = Check.told("1234", "p50@0;p10@0", "");
        ways(x, "00", 5, 10);
        x.weeks(2);
        ways(x, "00", 15, 20);
        ways(x, "000", 5, 15, 20);
        Check.due("of the other", Check.text(x, "00").way(1), 1);
        Check.row("of the other", x, 4);
        Check.due("nothing changes", x.count(3), 2);
    }

    private static void wrongWays() {
        SkirtsByTheDay x = traveller();
        ways(x, "01", 5, 10);
        wrongWay(x, "", 0);
        wrongWay(x, "4", 0);
        wrongWay(x, "012a", 3);
        wrongWay(x, "0;1", 1);
        wrongWay(x, Check.times("0", 27), 26);
        wrongWay(x, Check.times("0", 26) + "x", 26);
        wrongWay(x, Check.times("0", 80), 26);
        Check.due("way(2)", Check.text(x, "x").way(2), -100);
        Check.due("THE TEXT is empty then", x.count(11), 0);
        Check.due("way(-1)", Check.text(x, "0").way(-1), -100);
        Check.due("trunk(2)", Check.text(x, "").trunk(2), -100);
        Check.due("trunk(-1)", Check.text(x, "0").trunk(-1), -100);
        Check.row("they leave the row", x, 5, 10);
    }

    private static void wrongWay(SkirtsByTheDay x, String signs, int at) {
        Check.due("way() of " + signs, Check.text(x, signs).way(0), -1 - at);
        Check.due("the text after a wrong way", x.count(11), 0);
        Check.due("trunk() of " + signs, Check.text(x, signs).trunk(0), -1 - at);
        Check.due("the text after a wrong trunk", x.count(11), 0);
    }

    private static void packed(SkirtsByTheDay x, String signs, int inches, int changes) {
        Check.due("trunk() of " + signs, Check.text(x, signs).trunk(0), inches);
        Check.row("trunk() of " + signs, x, changes);
        Check.due("THE TEXT is empty then", x.count(11), 0);
    }

    private static void trunk() {
        SkirtsByTheDay x = traveller();
        packed(x, "0", 5, 0);
        packed(x, "0000", 5, 0);
        packed(x, "0101", 15, 3);
        packed(x, "0011", 15, 1);
        packed(x, "333", 0, 0);
        x.set(0, 5);
        // 5 and 15: 15 serves 10 and 15
        packed(x, "0122101", 20, 3);
        packed(x, "2101", 20, 2);
        x.set(0, 4);
        Check.text(x, "l*2").rule();
        // laws 2, 4, 6 and 0: 0 and 6, which serves 2 and 4 too
        packed(x, "3012", 6, 1);
        packed(x, "1010", 4, 0);
        packed(x, "31030", 4, 0);
        packed(x, "2013", 6, 1);
        packed(x, "20130", 6, 2);
        packed(x, "3020", 6, 1);
        packed(x, "0", 2, 0);
    }
}
