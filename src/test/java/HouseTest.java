/** Promises 1 to 12: texts, almanacs, the house, the rule, what is asked of people and cloths, terms, sheets. */
public final class HouseTest {
    public static void main(String[] args) {
        newObject();
        signs();
        ends();
        almanacs();
        wrongAlmanacs();
        houses();
        wrongHouses();
        longHouses();
        rules();
        ruleValues();
        wrongRules();
        people();
        cloths();
        lights();
        laws();
        terms();
        sheets();
        wrongSheets();
        Check.finish("HouseTest");
    }

    private static void newObject() {
        SkirtsByTheDay x = new SkirtsByTheDay();
        for (int what = 0; what <= 11; what++) {
            Check.due("a new object's count(" + what + ")", x.count(what), 0);
        }
        Check.none("a new object's person(0, 0)", () -> x.person(0, 0));
        Check.none("a new object's cloth(0, 0)", () -> x.cloth(0, 0));
        Check.none("a new object's piece(0)", () -> x.piece(0));
        Check.none("a new object's row(0)", () -> x.row(0));
        Check.due("a new object's light(0, 0)", x.light(0, 0), -1);
        Check.due("a new object's undo()", x.undo(), -1);
        Check.due("a new object's again(0)", x.again(0), false);
        Check.due("a new object's set(0, 3)", x.set(0, 3), 3);
        Check.due("a new object's set(1, 2)", x.set(1, 2), 2);
        Check.due("a new object's set(2, 1)", x.set(2, 1), 1);
    }

    private static void signs() {
        SkirtsByTheDay x = new SkirtsByTheDay();
        for (int n = 4; n <= 80; n += 4) {
            Check.due("sign up to " + n, x.sign(0x31323334), n);
        }
        Check.due("sign beyond 80", x.sign(0), -1);
        Check.due("count(11) of 80", x.count(11), 80);
        Check.due("end(77)", x.end(77), true);
        Check.due("sign at 77", x.sign(0), -1);
        Check.due("end(76)", x.end(76), true);
        Check.due("sign at 76", x.sign(0), 80);
        x.end(0);
        x.sign(0x31323334);
        x.almanac();
        for (int w = 0; w < 4; w++) {
            Check.due("the highest byte comes first, " + w, x.light(0, w), w + 1);
        }
        x.sign(0x310000FF);
        Check.due("a sign of 255 is a sign", x.count(11), 4);
        Check.due("almanac() of it", x.almanac(), -2);
    }

    private static void ends() {
        SkirtsByTheDay x = new SkirtsByTheDay();
        Check.due("end(0) of none", x.end(0), true);
        Check.due("end(1) of none", x.end(1), false);
        x.sign(0x35363738);
        Check.due("end(-1)", x.end(-1), false);
        Check.due("end(5) of 4", x.end(5), false);
        Check.due("count(11) after refused ends", x.count(11), 4);
        Check.due("end(4) of 4", x.end(4), true);
        Check.due("end(2) of 4", x.end(2), true);
        Check.due("count(11)", x.count(11), 2);
        Check.due("end(3) of 2", x.end(3), false);
        x.almanac();
        Check.due("the first signs stay", x.light(0, 1), 6);
        Check.due("and they alone", x.light(0, 2), 5);
    }

    private static void almanacs() {
        SkirtsByTheDay x = new SkirtsByTheDay();
        Check.due("four places", Check.text(x, "1/23/456/7890").almanac(), 4);
        Check.due("THE TEXT is empty then", x.count(11), 0);
        Check.due("count(0)", x.count(0), 4);
        Check.due("light(1, 3)", x.light(1, 3), 3);
        Check.due("light(3, 7)", x.light(3, 7), 0);
        Check.due("two places anew", Check.text(x, "9/8").almanac(), 2);
        Check.due("the others are gone", x.light(2, 0), -1);
        Check.due("the first is anew", x.light(0, 5), 9);
        String longest = "01234567890123456789012345";
        Check.due("26 digits", Check.text(x, longest).almanac(), 1);
        Check.due("the 26th", x.light(0, 25), 5);
        Check.due("the first again", x.light(0, 26), 0);
        Check.due("26 digits and others", Check.text(x, longest + "/3").almanac(), 2);
    }

    private static void wrongAlmanacs() {
        SkirtsByTheDay x = Check.told("57/8", "", "");
        wrongAlmanac(x, "", 0);
        wrongAlmanac(x, "/", 0);
        wrongAlmanac(x, "1//2", 2);
        wrongAlmanac(x, "1/", 2);
        wrongAlmanac(x, "12a", 2);
        wrongAlmanac(x, "1 2", 1);
        wrongAlmanac(x, "1/2/3/4/", 8);
        wrongAlmanac(x, "1/2/3/4/5", 8);
        wrongAlmanac(x, "1/2/3/4x", 7);
        wrongAlmanac(x, Check.times("1", 27), 26);
        wrongAlmanac(x, "2/" + Check.times("1", 27), 28);
        wrongAlmanac(x, Check.times("1", 80), 26);
        Check.due("refused almanacs change nothing", x.light(0, 1), 7);
        Check.due("nor how many there are", x.count(0), 2);
    }

    private static void wrongAlmanac(SkirtsByTheDay x, String signs, int at) {
        Check.due("almanac() of " + signs, Check.text(x, signs).almanac(), -1 - at);
        Check.due("the text after a wrong almanac", x.count(11), 0);
    }

    private static void houses() {
        SkirtsByTheDay x = new SkirtsByTheDay();
        Check.due("an empty house", Check.text(x, "").house(), 0);
        Check.due("one of people", Check.text(x, "p05@3").house(), 1);
        Check.due("two lines more", Check.text(x, "c0;p99@0").house(), 2);
        Check.due("and one", Check.text(x, "c07+9").house(), 1);
        Check.due("a hem of 0", Check.text(new SkirtsByTheDay(), "c07+0").house(), 1);
        Check.due("THE TEXT is empty then", x.count(11), 0);
        Check.due("people", x.count(1), 2);
        Check.due("cloths", x.count(2), 2);
        Check.due("height 05", x.person(0, 0), 5);
        Check.due("place 3", x.person(0, 1), 3);
        Check.due("wears none", x.person(0, 2), -1);
        Check.due("height 99", x.person(1, 0), 99);
        Check.due("length 0", x.cloth(0, 0), 0);
        Check.due("no hem told", x.cloth(0, 1), 0);
        Check.due("length 7", x.cloth(1, 0), 7);
        Check.due("hem 9", x.cloth(1, 1), 9);
        Check.due("seams", x.cloth(1, 3), 0);
        Check.due("four of people more", Check.text(x, "p1@0;p1@0;p1@0;p1@0").house(), 4);
        Check.due("a seventh", Check.text(x, "c1;p1@0").house(), -4);
        Check.due("nothing of it came", x.count(2), 2);
        Check.due("six cloths more", Check.text(x, "c1;c1;c1;c1;c1;c1").house(), 6);
        Check.due("a ninth", Check.text(x, "c1").house(), -1);
        Check.due("an empty one still", Check.text(x, "").house(), 0);
    }

    private static void wrongHouses() {
        SkirtsByTheDay x = Check.told("1", "p10@0;c20", "");
        wrongHouse(x, ";", 0);
        wrongHouse(x, "P1@0", 0);
        wrongHouse(x, "p", 1);
        wrongHouse(x, "p@0", 1);
        wrongHouse(x, "p0@0", 1);
        wrongHouse(x, "p0", 1);
        wrongHouse(x, "p00@0", 2);
        wrongHouse(x, "p00", 2);
        wrongHouse(x, "p1", 2);
        wrongHouse(x, "p12", 3);
        wrongHouse(x, "p123@0", 3);
        wrongHouse(x, "p12@", 4);
        wrongHouse(x, "p12@4", 4);
        wrongHouse(x, "p12@00", 5);
        wrongHouse(x, "p12@0+1", 5);
        wrongHouse(x, "p12@0;", 6);
        wrongHouse(x, "c", 1);
        wrongHouse(x, "c+1", 1);
        wrongHouse(x, "c123", 3);
        wrongHouse(x, "c1+", 3);
        wrongHouse(x, "c1+a", 3);
        wrongHouse(x, "c1+12", 4);
        wrongHouse(x, "c1@0", 2);
        wrongHouse(x, "c1;;c1", 3);
        wrongHouse(x, "c1;c2;x", 6);
        wrongHouse(x, Check.times("p1@0;", 5) + "p1@0", 25);
        wrongHouse(x, Check.times("c1;", 7) + "c1", 21);
        Check.due("people are as they were", x.count(1), 1);
        Check.due("cloths are as they were", x.count(2), 1);
        Check.due("and their lengths", x.cloth(0, 0), 20);
    }

    private static void wrongHouse(SkirtsByTheDay x, String signs, int at) {
        Check.due("house() of " + signs, Check.text(x, signs).house(), -1 - at);
        Check.due("the text after a wrong house", x.count(11), 0);
    }

    /** 76 signs are read; one more is at fault, if nothing ahead of it is. */
    private static void longHouses() {
        String people = Check.times("p12@0;", 6);
        String seventySix = people + Check.times("c12+3;", 6) + "c1;c";
        SkirtsByTheDay x = new SkirtsByTheDay();
        Check.due("76 signs that end too early", Check.text(x, seventySix).house(), -77);
        String full = people + Check.times("c12+3;", 5) + "c12+3;c1+1";
        Check.due("76 signs in all", full.length(), 76);
        Check.due("they come", Check.text(new SkirtsByTheDay(), full).house(), 13);
        Check.due("77 signs that could end at 76", Check.text(x, full + ";").house(), -77);
        Check.due("80 signs that could go on at 76", Check.text(x, seventySix + "1;;;").house(), -77);
        Check.due("80 signs, a fault behind 76", Check.text(x, full + "xxxx").house(), -77);
        Check.due("80 signs, a fault ahead of 76", Check.text(x, people + "c;" + seventySix.substring(0, 42)).house(), -38);
        String zero = Check.times("p1@0;", 5) + Check.times("c12+3;", 8) + "p0";
        Check.due("75 signs", zero.length(), 75);
        Check.due("a height of 0 at the end", Check.text(x, zero).house(), -75);
        String later = Check.times("p1@0;", 4) + "p12@0;" + Check.times("c12+3;", 8) + "p0";
        Check.due("a height 0 as the 76th sign could go on", Check.text(x, later + "5@1").house(), -77);
        Check.due("nobody came", x.count(1) + x.count(2), 0);
    }

    private static void rules() {
        SkirtsByTheDay x = Check.told("5", "p50@0;p99@0", "");
        Check.due("no rule: h*l/10", x.law(0, 0, 0), 25);
        Check.due("a rule", Check.text(x, "7").rule(), 0);
        Check.due("THE TEXT is empty then", x.count(11), 0);
        Check.due("its law", x.law(0, 0, 0), 7);
        Check.due("a wrong one", Check.text(x, "8+").rule(), -3);
        Check.due("changes nothing", x.law(0, 0, 0), 7);
        Check.due("none again", Check.text(x, "").rule(), 0);
        Check.due("its law", x.law(1, 0, 0), 49);
        Check.due("40 signs", Check.text(x, Check.times("1+", 19) + "1*").rule(), -41);
        Check.due("40 signs that are one", Check.text(x, Check.times("1+", 19) + "10").rule(), 0);
        Check.due("its law", x.law(0, 0, 0), 29);
        Check.due("39 signs", Check.text(x, Check.times("-", 38) + "3").rule(), 0);
        Check.due("its law", x.law(0, 0, 0), 3);
        Check.due("40 signs of it", Check.text(x, Check.times("-", 39) + "3").rule(), 0);
        Check.due("its law", x.law(0, 0, 0), 0);
    }

    private static void ruleValues() {
        value("2+3*4", 14);
        value("(2+3)*4", 20);
        value("20-5-6", 9);
        value("20-(5-6)", 21);
        value("80/4/5", 4);
        value("80/(4/5)", 0);
        value("7/0", 0);
        value("7/2*2", 6);
        value("50+-7/2", 47);
        value("50-7/-2", 53);
        value("5--3", 8);
        value("5---3", 2);
        value("2*-3+10", 4);
        value("-2*3+10", 4);
        value("1+1<3", 1);
        value("3<1+1", 0);
        value("3>2", 1);
        value("2>3", 0);
        value("3=3", 1);
        value("3=4", 0);
        value("(3<4)+(4<5)=2", 1);
        value("(((((1))))", NO_RULE);
        value("((((1))))", 1);
        value("007", 7);
        value("999", 99);
        value("0-999", 0);
        value("h", 50);
        value("l", 5);
        value("w", 3);
        value("p+20", 21);
        value("i+30", 32);
        value("999*999*999*999*999+85", wrapped());
        value("512*512*512*16", 0);
        value("512*512*512*16-1", 99);
        value("512*512*512*16/-1", 0);
        value("--512*512*512*16/-1-1", 99);
    }

    private static final int NO_RULE = -1;

    private static int wrapped() {
        int v = 999 * 999 * 999 * 999 * 999 + 85;
        return Math.max(0, Math.min(99, v));
    }

    private static void value(String rule, int want) {
        SkirtsByTheDay x = Check.told("9/5/9", "p11@0;p12@0;p50@1", "");
        int answer = Check.text(x, rule).rule();
        if (want == NO_RULE) {
            Check.due("rule() of " + rule, answer < 0, true);
        } else {
            Check.due("rule() of " + rule, answer, 0);
            Check.due("the law of " + rule, x.law(2, 1, 3), want);
        }
    }

    private static void wrongRules() {
        SkirtsByTheDay x = Check.told("5", "p50@0", "13");
        wrongRule(x, "+", 0);
        wrongRule(x, "-", 1);
        wrongRule(x, "()", 1);
        wrongRule(x, "(h", 2);
        wrongRule(x, "h)", 1);
        wrongRule(x, "(h))", 3);
        wrongRule(x, "h h", 1);
        wrongRule(x, "hl", 1);
        wrongRule(x, "1h", 1);
        wrongRule(x, "h1", 1);
        wrongRule(x, "1000", 3);
        wrongRule(x, "1+2000", 5);
        wrongRule(x, "h*", 2);
        wrongRule(x, "h*/l", 2);
        wrongRule(x, "h<", 2);
        wrongRule(x, "h<=l", 2);
        wrongRule(x, "h<l>w", 3);
        wrongRule(x, "(h<l=w)", 4);
        wrongRule(x, "h<l+w<p", 5);
        wrongRule(x, "x", 0);
        wrongRule(x, "(((((h)))))", 4);
        wrongRule(x, "1+((((h+(1", 8);
        wrongRule(x, Check.times("1+", 20), 40);
        wrongRule(x, Check.times("1+", 19) + "100", 40);
        wrongRule(x, Check.times("1+", 19) + "10+1", 40);
        wrongRule(x, Check.times("1+", 19) + "1+1", 40);
        wrongRule(x, Check.times("1+", 19) + ")+1", 38);
        wrongRule(x, Check.times("-", 60), 40);
        Check.due("the rule is as it was", x.law(0, 0, 0), 13);
    }

    private static void wrongRule(SkirtsByTheDay x, String signs, int at) {
        Check.due("rule() of " + signs, Check.text(x, signs).rule(), -1 - at);
        Check.due("the text after a wrong rule", x.count(11), 0);
    }

    private static void people() {
        SkirtsByTheDay x = Check.told("57", "p50@0;p40@2;c25;c35", "");
        x.wear(0, 1);
        Check.due("height", x.person(0, 0), 50);
        Check.due("place", x.person(1, 1), 2);
        Check.due("cloth", x.person(0, 2), 1);
        Check.due("no cloth", x.person(1, 2), -1);
        Check.due("law where it is", x.person(0, 3), 25);
        Check.due("law without an almanac", x.person(1, 3), 0);
        Check.due("not as long", x.person(0, 4), 0);
        Check.due("without", x.person(1, 4), 0);
        x.wear(0, 0);
        Check.due("as long", x.person(0, 4), 1);
        x.week();
        Check.due("law now", x.person(0, 3), 35);
        Check.due("not as long now", x.person(0, 4), 0);
        Check.none("person(2, 0)", () -> x.person(2, 0));
        Check.none("person(-1, 0)", () -> x.person(-1, 0));
        Check.none("person(0, 5)", () -> x.person(0, 5));
        Check.none("person(0, -1)", () -> x.person(0, -1));
    }

    private static void cloths() {
        SkirtsByTheDay x = Check.told("57", "p50@0;p40@2;c25+4;c35", "");
        x.wear(1, 0);
        Check.due("length", x.cloth(0, 0), 25);
        Check.due("hem", x.cloth(0, 1), 4);
        Check.due("all", x.cloth(0, 2), 29);
        Check.due("seams", x.cloth(0, 3), 0);
        Check.due("who wears it", x.cloth(0, 4), 1);
        Check.due("nobody", x.cloth(1, 4), -1);
        x.make(1, 36);
        x.make(1, 37);
        Check.due("seams of a joined one", x.cloth(1, 3), 2);
        Check.none("cloth(2, 0)", () -> x.cloth(2, 0));
        Check.none("cloth(-1, 0)", () -> x.cloth(-1, 0));
        Check.none("cloth(0, 5)", () -> x.cloth(0, 5));
        Check.none("cloth(0, -1)", () -> x.cloth(0, -1));
    }

    private static void lights() {
        SkirtsByTheDay x = Check.told("123/4", "", "");
        Check.due("light(0, 9999)", x.light(0, 9999), 1);
        Check.due("light(0, 10000)", x.light(0, 10000), -1);
        Check.due("light(0, -1)", x.light(0, -1), -1);
        Check.due("light(-1, 0)", x.light(-1, 0), -1);
        Check.due("light(1, 77)", x.light(1, 77), 4);
        Check.due("light(2, 0)", x.light(2, 0), -1);
        Check.due("light(4, 0)", x.light(4, 0), -1);
    }

    private static void laws() {
        SkirtsByTheDay x = Check.told("59", "p50@0;p33@0", "");
        Check.due("law(1, 0, 1)", x.law(1, 0, 1), 29);
        Check.due("law(1, 0, 9999)", x.law(1, 0, 9999), 29);
        Check.due("law(1, 0, 10000)", x.law(1, 0, 10000), -1);
        Check.due("law(1, 0, -1)", x.law(1, 0, -1), -1);
        Check.due("law(0, 3, 0) without an almanac", x.law(0, 3, 0), 0);
        Check.due("law(0, 4, 0)", x.law(0, 4, 0), -1);
        Check.due("law(0, -1, 0)", x.law(0, -1, 0), -1);
        Check.due("law(2, 0, 0)", x.law(2, 0, 0), -1);
        Check.due("law(-1, 0, 0)", x.law(-1, 0, 0), -1);
        Check.text(x, "5").rule();
        Check.due("a rule without an almanac: 0", x.law(0, 1, 0), 0);
    }

    private static void terms() {
        SkirtsByTheDay x = Check.told("5", "p50@0;c10+5", "");
        Check.due("set(0, 0)", x.set(0, 0), 3);
        Check.due("set(0, 9)", x.set(0, 9), 0);
        Check.due("set(1, 7)", x.set(1, 7), 2);
        Check.due("set(2, 5)", x.set(2, 5), 1);
        Check.due("set(0, 10)", x.set(0, 10), -1);
        Check.due("set(0, -1)", x.set(0, -1), -1);
        Check.due("set(3, 0)", x.set(3, 0), -1);
        Check.due("set(-1, 0)", x.set(-1, 0), -1);
        Check.due("hems stay", x.cloth(0, 1), 5);
        Check.due("both prices are paid", x.make(0, 25), 10 * 7 + 3 * 5);
    }

    private static void sheets() {
        SkirtsByTheDay x = Check.told("5", "p50@0;c10+5;c20;c30+1", "");
        Check.due("bytes", x.sheet(0, 2, 120, 5), 99 + 99);
        Check.due("one beyond 99 is put to it", x.cloth(0, 0), 99);
        Check.due("behind it: 0", x.cloth(2, 0), 0);
        Check.due("hems stay", x.cloth(0, 1), 5);
        Check.due("a byte's sign", x.sheet(0, 3, 120, 8), 99);
        Check.due("128 as a byte is below 0", x.cloth(1, 0), 0);
        Check.due("a byte's lowest bits", x.sheet(0, 3, 256 + 7, 256), 21);
        Check.due("shorts", x.sheet(1, 3, 65536 + 50, 1), 50 + 51 + 52);
        Check.due("a short's sign", x.sheet(1, 3, 40000, 0), 0);
        Check.due("128 as a short", x.sheet(1, 1, 128, 0), 99);
        Check.due("ints", x.sheet(2, 3, -5, 10), 0 + 5 + 15);
        Check.due("65536 as an int", x.sheet(2, 2, 65536, -65530), 99 + 6);
        Check.due("ints wrap", x.sheet(2, 2, Integer.MAX_VALUE, 2), 99);
        Check.due("more entries than cloths", x.sheet(2, 8, 1, 1), 1 + 2 + 3);
        Check.due("no entries", x.sheet(2, 0, 9, 9), 0);
        Check.due("no row of it", x.count(10), 0);
        Check.due("nothing of it can be undone", x.undo(), -1);
    }

    private static void wrongSheets() {
        SkirtsByTheDay x = Check.told("5", "p50@0;c10+5;c20;c30+1", "");
        Check.due("kind 4", x.sheet(4, 1, 1, 1), -1);
        Check.due("kind -1", x.sheet(-1, 1, 1, 1), -1);
        Check.due("kind -1, n below 0", x.sheet(-1, -1, 1, 1), -1);
        Check.due("n 9", x.sheet(0, 9, 1, 1), -1);
        Check.due("n 9 of a missing one", x.sheet(3, 9, 1, 1), -1);
        Check.due("n below 0", x.sheet(0, -1, 1, 1), -2);
        Check.due("n below 0 of ints", x.sheet(2, Integer.MIN_VALUE, 1, 1), -2);
        Check.due("they change nothing", x.cloth(0, 0) + x.cloth(1, 0) + x.cloth(2, 0), 60);
        Check.due("a missing one", x.sheet(3, 3, 1, 1), -3);
        Check.due("all are 0", x.cloth(0, 0) + x.cloth(1, 0) + x.cloth(2, 0), 0);
        Check.due("but for hems", x.cloth(0, 2), 5);
        x.sheet(2, 3, 5, 0);
        Check.due("a missing one, n below 0", x.sheet(3, -1, 1, 1), -3);
        Check.due("all are 0", x.cloth(1, 0), 0);
    }
}
