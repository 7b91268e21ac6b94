/** The edges that the document names under 'Terms' and promises 1 to 12: the last that is allowed, the first that is not. */
public final class HouseEdgesTest {
    private static final int MIN = Integer.MIN_VALUE;
    private static final int MAX = Integer.MAX_VALUE;
    private static final Twins BUSY = new Twins(Twins::busy);
    private static final Twins FULL = new Twins(Twins::full);
    private static final String DIGITS = "01234567890123456789012345";

    public static void main(String[] args) {
        atFirst();
        mostSigns();
        signsOfAllBytes();
        firstSigns();
        digitsOfAnAlmanac();
        weeksWrapAround();
        fourPlaces();
        almanacsToldAnew();
        almanacsThatEndTooEarly();
        heights();
        placesOfPeople();
        sixPeople();
        lengthsAndHems();
        eightCloths();
        linesBehindWhatThereIs();
        housesThatEndTooEarly();
        signsOfAHouse();
        nothingOfItComes();
        emptyHouse();
        numbersOfARule();
        parentheses();
        comparisons();
        signsAheadOfAThing();
        divisions();
        intsThatWrap();
        putToALength();
        signsOfARule();
        rulesThatEndTooEarly();
        emptyRule();
        whatIsToldOfPeople();
        whatIsToldOfCloths();
        lights();
        laws();
        terms();
        sheets();
        sheetsOfBytes();
        sheetsOfShorts();
        sheetsOfInts();
        missingSheets();
        Check.finish("HouseEdgesTest");
    }

    /** At first: none of anything, MOST HEM 3, PRICES 2 and 1, no RULE; refused calls leave a new object new. */
    private static void atFirst() {
        SkirtsByTheDay x = new SkirtsByTheDay();
        for (int what = 0; what <= 11; what++) {
            Check.due("count(" + what + ") at first", x.count(what), 0);
        }
        Check.due("MOST HEM at first", x.set(0, 3), 3);
        Check.due("PRICE of an inch at first", x.set(1, 2), 2);
        Check.due("PRICE of SEWING at first", x.set(2, 1), 1);
        Twins fresh = new Twins(SkirtsByTheDay::new);
        fresh.thrown("person(0, 0) of nobody", o -> o.person(0, 0));
        fresh.thrown("cloth(0, 0) of none", o -> o.cloth(0, 0));
        fresh.thrown("piece(0) of none", o -> o.piece(0));
        fresh.thrown("row(0) of none", o -> o.row(0));
        fresh.refused("light(0, 0) without ALMANACS", o -> o.light(0, 0));
        fresh.refused("law(0, 0, 0) of nobody", o -> o.law(0, 0, 0));
        fresh.refused("wear(0, NONE) of nobody", -3, o -> o.wear(0, -1));
        fresh.refused("go(0, 0) of nobody", o -> o.go(0, 0));
        fresh.refused("make(0, 0) of none", o -> o.make(0, 0));
        fresh.refused("undo() of nothing", o -> o.undo());
        fresh.refused("sell(0, 0) of none", o -> o.sell(0, 0));
        fresh.refused("patches(1) of none", -2, o -> o.patches(1));
        fresh.refused("quilt(1) of none", -2, o -> o.quilt(1));
        fresh.refused("longest(0, 0, 1) of nobody", o -> o.longest(0, 0, 1));
        fresh.refused("serves(0, 0, 0) of none", o -> o.serves(0, 0, 0));
        fresh.refused("nearest(0) of nobody", o -> o.nearest(0));
        fresh.refused("dress(1) of nobody", o -> o.dress(1));
        fresh.refused("way(0) of nobody", -100, o -> o.way(0));
        fresh.refused("trunk(0) of nobody", -100, o -> o.trunk(0));
        fresh.refused("seen(0, 0, 0, 0) of nobody", o -> o.seen(0, 0, 0, 0));
        fresh.refused("heights(0) of nobody", o -> o.heights(0));
        fresh.refused("again(0) of nothing kept", 0, o -> o.again(0) ? 1 : 0);
        fresh.refused("draw(0, 1, 1) of no PLACE 0", o -> o.draw(0, 1, 1));
    }

    /** sign(): refused if there would be more than 80. */
    private static void mostSigns() {
        String eighty = DIGITS + "/" + DIGITS + "/" + DIGITS;
        SkirtsByTheDay x = Check.text(new SkirtsByTheDay(), eighty.substring(0, 76));
        Check.due("sign() behind 76 signs", x.sign(0x32333435), 80);
        Check.due("80 signs can be read", x.almanac(), 3);
        Check.due("the 80th of them", x.light(2, 25), 5);
        for (int n = 77; n <= 80; n++) {
            String text = eighty.substring(0, n);
            Twins twins = new Twins(() -> Check.text(Twins.busy(), text));
            twins.refused("sign() behind " + n + " signs", o -> o.sign(0x31313131));
        }
        Check.due("sign() of an emptied text", x.sign(0), 4);
    }

    private static void signsOfAllBytes() {
        SkirtsByTheDay x = new SkirtsByTheDay();
        int[] signs = {0, -1, MIN, MAX, 0x30303030};
        for (int k = 0; k < signs.length; k++) {
            Check.due("sign(" + signs[k] + ")", x.sign(signs[k]), 4 * k + 4);
        }
        Check.due("a sign of 0 can't stand in an almanac", x.almanac(), -1);
        x.sign(0x31B13131);
        Check.due("nor one of 177, which is no 1", x.almanac(), -2);
        x.sign(0x31323334);
        x.end(4);
        x.almanac();
        Check.due("the highest byte first", x.light(0, 0) * 1000 + x.light(0, 3), 1004);
    }

    /** end(): as many as it has, none; not more, nor fewer than none. */
    private static void firstSigns() {
        SkirtsByTheDay x = Check.text(new SkirtsByTheDay(), "1234567");
        Check.due("end(7) of 7", x.end(7), true);
        Check.due("7 signs", x.count(11), 7);
        Check.due("end(0) of 7", x.end(0), true);
        Check.due("no signs", x.count(11), 0);
        Check.due("end(0) of none", x.end(0), true);
        int[] wrong = {5, 6, 80, MAX, -1, MIN};
        for (int n : wrong) {
            BUSY.refused("end(" + n + ") of 4", 0, o -> o.end(n) ? 1 : 0);
        }
        SkirtsByTheDay y = Check.text(new SkirtsByTheDay(), "9876");
        y.end(1);
        y.sign(0x31313131);
        y.almanac();
        Check.due("the first sign stays", y.light(0, 0), 9);
        Check.due("the second is a new one", y.light(0, 1), 1);
        Check.due("five in all", y.light(0, 5), 9);
    }

    /** An ALMANAC has 1 to 26 digits; a 27th: at it. */
    private static void digitsOfAnAlmanac() {
        SkirtsByTheDay x = new SkirtsByTheDay();
        Check.due("one digit", Check.text(x, "7").almanac(), 1);
        Check.due("26 digits", Check.text(x, DIGITS).almanac(), 1);
        Check.due("the least and the greatest digit", Check.text(x, "09").almanac(), 1);
        Check.due("their LIGHT", x.light(0, 0) * 10 + x.light(0, 1), 9);
        BUSY.emptied("almanac()", DIGITS + "6", -27, o -> o.almanac());
        BUSY.emptied("almanac()", "1/" + DIGITS + "6", -29, o -> o.almanac());
        BUSY.emptied("almanac()", "1/2/3/" + DIGITS + "6/1", -33, o -> o.almanac());
        BUSY.emptied("almanac()", DIGITS + "x", -27, o -> o.almanac());
        BUSY.emptied("almanac()", ":", -1, o -> o.almanac());
        BUSY.emptied("almanac()", "1.", -2, o -> o.almanac());
        BUSY.emptied("almanac()", "/1", -1, o -> o.almanac());
        BUSY.emptied("almanac()", "1//1", -3, o -> o.almanac());
    }

    /** In WEEK w the digit w % (how many). */
    private static void weeksWrapAround() {
        SkirtsByTheDay x = Check.told("123/4/" + DIGITS, "p10@0", "");
        int[] weeks = {0, 1, 2, 3, 25, 26, 27, 9998, 9999};
        for (int w : weeks) {
            Check.due("light(0, " + w + ") of 3 digits", x.light(0, w), w % 3 + 1);
            Check.due("light(1, " + w + ") of 1 digit", x.light(1, w), 4);
            Check.due("light(2, " + w + ") of 26 digits", x.light(2, w), w % 26 % 10);
        }
        x.weeks(26);
        x.go(0, 2);
        Check.due("LAW in WEEK 26 is as in WEEK 0", x.person(0, 3), 0);
        x.week();
        Check.due("LAW in WEEK 27 is as in WEEK 1", x.person(0, 3), 1);
    }

    /** At most 4 PLACES; a fifth one's first sign: at it. */
    private static void fourPlaces() {
        SkirtsByTheDay x = new SkirtsByTheDay();
        Check.due("four PLACES", Check.text(x, "1/2/3/4").almanac(), 4);
        Check.due("the fourth", x.light(3, 0), 4);
        BUSY.emptied("almanac()", "1/2/3/4/5", -9, o -> o.almanac());
        BUSY.emptied("almanac()", "1/2/3/4/x", -9, o -> o.almanac());
        BUSY.emptied("almanac()", "1/2/3/4//", -9, o -> o.almanac());
        BUSY.emptied("almanac()", "1/2/3/45/6", -10, o -> o.almanac());
        FULL.emptied("almanac()", "1/2/3/4/5", -9, o -> o.almanac());
    }

    private static void almanacsToldAnew() {
        SkirtsByTheDay x = Twins.full();
        Check.due("one PLACE told anew", Check.text(x, "8").almanac(), 1);
        Check.due("it is anew", x.light(0, 0), 8);
        for (int place = 1; place < 4; place++) {
            Check.due("PLACE " + place + " has no ALMANAC", x.light(place, 0), -1);
        }
        Check.due("LAW there is 0", x.law(5, 1, 0), 0);
        Check.due("who is there stays there", x.person(5, 1), 1);
    }

    private static void almanacsThatEndTooEarly() {
        BUSY.emptied("almanac()", "", -1, o -> o.almanac());
        BUSY.emptied("almanac()", "12/", -4, o -> o.almanac());
        BUSY.emptied("almanac()", "1/2/3/", -7, o -> o.almanac());
        BUSY.emptied("almanac()", "1/2/3/4/", -9, o -> o.almanac());
    }

    private static void told(String line, int person, int what, int due) {
        SkirtsByTheDay x = new SkirtsByTheDay();
        Check.due("house() of " + line, Check.text(x, line).house(), 1);
        Check.due(line, person == 1 ? x.person(0, what) : x.cloth(0, what), due);
    }

    /** HEIGHT 1 .. 99 of 1 or 2 digits, not 0: at its last digit. */
    private static void heights() {
        told("p1@0", 1, 0, 1);
        told("p01@0", 1, 0, 1);
        told("p9@0", 1, 0, 9);
        told("p10@0", 1, 0, 10);
        told("p99@0", 1, 0, 99);
        BUSY.emptied("house()", "p0@0", -2, o -> o.house());
        BUSY.emptied("house()", "p00@0", -3, o -> o.house());
        BUSY.emptied("house()", "c1;p0@0", -5, o -> o.house());
        BUSY.emptied("house()", "c1;p00@0", -6, o -> o.house());
        BUSY.emptied("house()", "p0", -2, o -> o.house());
        BUSY.emptied("house()", "p00", -3, o -> o.house());
        BUSY.emptied("house()", "p100@0", -4, o -> o.house());
        BUSY.emptied("house()", "p001@0", -3, o -> o.house());
        BUSY.emptied("house()", "p@0", -2, o -> o.house());
        BUSY.emptied("house()", "p-1@0", -2, o -> o.house());
        BUSY.emptied("house()", "p/@0", -2, o -> o.house());
        BUSY.emptied("house()", "p:@0", -2, o -> o.house());
        BUSY.emptied("house()", "p1/@0", -3, o -> o.house());
        BUSY.emptied("house()", "p1:@0", -3, o -> o.house());
    }

    /** The PLACE where one is, 0 .. 3, whether there is one or not. */
    private static void placesOfPeople() {
        told("p5@0", 1, 1, 0);
        told("p5@3", 1, 1, 3);
        told("p5@3", 1, 3, 0);
        told("p5@3", 1, 2, -1);
        told("p5@3", 1, 4, 0);
        BUSY.emptied("house()", "p5@4", -4, o -> o.house());
        BUSY.emptied("house()", "p5@/", -4, o -> o.house());
        BUSY.emptied("house()", "p5@01", -5, o -> o.house());
        BUSY.emptied("house()", "p5;", -3, o -> o.house());
    }

    /** At most 6 PEOPLE: the first sign of a LINE for which there is no room. */
    private static void sixPeople() {
        SkirtsByTheDay x = new SkirtsByTheDay();
        Check.due("six of PEOPLE", Check.text(x, Check.times("p1@0;", 5) + "p6@0").house(), 6);
        Check.due("the sixth", x.person(5, 0), 6);
        Check.none("person(6, 0)", () -> x.person(6, 0));
        Twins none = new Twins(SkirtsByTheDay::new);
        none.emptied("house()", Check.times("p1@0;", 6) + "p7@0", -31, o -> o.house());
        none.emptied("house()", Check.times("p1@0;", 6) + "c1;p7@0", -34, o -> o.house());
        none.emptied("house()", Check.times("p1@0;", 6), -31, o -> o.house());
        BUSY.emptied("house()", Check.times("p1@0;", 4) + "p7@0", -21, o -> o.house());
        FULL.emptied("house()", "p1@0", -1, o -> o.house());
        FULL.emptied("house()", "p", -1, o -> o.house());
    }

    /** LENGTH 0 .. 99 of 1 or 2 digits, HEM 0 .. 9 (else 0), ALL of both, SEAMS 0. */
    private static void lengthsAndHems() {
        told("c0", 0, 0, 0);
        told("c00", 0, 0, 0);
        told("c9", 0, 0, 9);
        told("c99", 0, 0, 99);
        told("c99", 0, 1, 0);
        told("c99+0", 0, 1, 0);
        told("c99+9", 0, 1, 9);
        told("c99+9", 0, 2, 108);
        told("c0+0", 0, 2, 0);
        told("c99+9", 0, 3, 0);
        told("c99+9", 0, 4, -1);
        BUSY.emptied("house()", "c100", -4, o -> o.house());
        BUSY.emptied("house()", "c+1", -2, o -> o.house());
        BUSY.emptied("house()", "c1+10", -5, o -> o.house());
        BUSY.emptied("house()", "c1+-", -4, o -> o.house());
        BUSY.emptied("house()", "c1+/", -4, o -> o.house());
        BUSY.emptied("house()", "c1+:", -4, o -> o.house());
        BUSY.emptied("house()", "c/", -2, o -> o.house());
        BUSY.emptied("house()", "c:", -2, o -> o.house());
        BUSY.emptied("house()", "c1/", -3, o -> o.house());
        BUSY.emptied("house()", "c1:", -3, o -> o.house());
        BUSY.emptied("house()", "c1+1+1", -5, o -> o.house());
    }

    /** At most 8 CLOTHS. */
    private static void eightCloths() {
        SkirtsByTheDay x = new SkirtsByTheDay();
        Check.due("eight CLOTHS", Check.text(x, Check.times("c1;", 7) + "c8").house(), 8);
        Check.due("the eighth", x.cloth(7, 0), 8);
        Check.none("cloth(8, 0)", () -> x.cloth(8, 0));
        Twins none = new Twins(SkirtsByTheDay::new);
        none.emptied("house()", Check.times("c1;", 8) + "c9", -25, o -> o.house());
        none.emptied("house()", Check.times("c1;", 8) + "p1@0;c9", -30, o -> o.house());
        none.emptied("house()", Check.times("c1;", 8), -25, o -> o.house());
        BUSY.emptied("house()", Check.times("c1;", 5) + "c9", -16, o -> o.house());
        FULL.emptied("house()", "c1", -1, o -> o.house());
        FULL.emptied("house()", "c", -1, o -> o.house());
    }

    private static void linesBehindWhatThereIs() {
        SkirtsByTheDay x = Twins.busy();
        Check.due("two LINES more", Check.text(x, "c7+1;p7@2").house(), 2);
        Check.due("those that were stay", x.person(1, 0) * 100 + x.cloth(2, 2), 4003);
        Check.due("the new one of PEOPLE", x.person(2, 0) * 10 + x.person(2, 1), 72);
        Check.due("the new CLOTH", x.cloth(3, 0) * 10 + x.cloth(3, 1), 71);
        Check.due("it wears none", x.person(2, 2), -1);
        Check.due("NOW and THE BOX stay", x.count(3) * 10 + x.count(4), 43);
        Check.due("four LINES more", Check.text(x, "p1@0;p1@0;p1@0;c1;c1;c1;c1").house(), 7);
        Check.due("14 in all", x.count(1) + x.count(2), 14);
    }

    private static void housesThatEndTooEarly() {
        BUSY.emptied("house()", "p", -2, o -> o.house());
        BUSY.emptied("house()", "p1", -3, o -> o.house());
        BUSY.emptied("house()", "p12", -4, o -> o.house());
        BUSY.emptied("house()", "p1@", -4, o -> o.house());
        BUSY.emptied("house()", "p1@0;", -6, o -> o.house());
        BUSY.emptied("house()", "c", -2, o -> o.house());
        BUSY.emptied("house()", "c1+", -4, o -> o.house());
        BUSY.emptied("house()", "c1;", -4, o -> o.house());
        BUSY.emptied("house()", ";", -1, o -> o.house());
        BUSY.emptied("house()", ";c1", -1, o -> o.house());
        BUSY.emptied("house()", "c1;;", -4, o -> o.house());
        BUSY.emptied("house()", "x", -1, o -> o.house());
        BUSY.emptied("house()", "c1 ", -3, o -> o.house());
        BUSY.emptied("house()", "C1", -1, o -> o.house());
    }

    /** At most 76 signs: 76, if it has more and the first 76 could go on or end. */
    private static void signsOfAHouse() {
        Twins none = new Twins(SkirtsByTheDay::new);
        String people = Check.times("p10@0;", 6);
        String most = people + Check.times("c10+1;", 6) + "c1+1";
        Check.due("76 signs", most.length(), 76);
        SkirtsByTheDay x = new SkirtsByTheDay();
        Check.due("they come", Check.text(x, most).house(), 13);
        none.emptied("house()", most + ";", -77, o -> o.house());
        none.emptied("house()", most + "x", -77, o -> o.house());
        none.emptied("house()", most + ";c1", -77, o -> o.house());
        none.emptied("house()", most.substring(0, 75), -76, o -> o.house());
        none.emptied("house()", most.substring(0, 75) + "x", -76, o -> o.house());
        none.emptied("house()", most.substring(0, 75) + "xxxx", -76, o -> o.house());
        String wider = people + Check.times("c10+1;", 6) + "c1;c";
        none.emptied("house()", wider, -77, o -> o.house());
        none.emptied("house()", wider + "1", -77, o -> o.house());
        none.emptied("house()", "x" + most, -1, o -> o.house());
        none.emptied("house()", most.substring(0, 40) + "x" + most.substring(40), -41, o -> o.house());
        String ends = people + Check.times("c10+1;", 5) + "c10;c1+1;;";
        Check.due("a wrong sign at 75", ends.length(), 76);
        none.emptied("house()", ends, -76, o -> o.house());
        none.emptied("house()", ends + "c1", -76, o -> o.house());
    }

    private static void nothingOfItComes() {
        BUSY.emptied("house()", "p1@0;c1;p2@0;c2+2;p3@4", -22, o -> o.house());
        BUSY.emptied("house()", "c99+9;c99+9;c99+9;c99+9;c99+9;c99", -31, o -> o.house());
    }

    /** An empty one: nothing, and nothing is forgotten. */
    private static void emptyHouse() {
        BUSY.emptied("house()", "", 0, o -> o.house());
        FULL.emptied("house()", "", 0, o -> o.house());
    }

    /** LAW of one with HEIGHT 50 and number 2, at PLACE 1 with LIGHT 5, in WEEK 3. */
    private static void value(String rule, int due) {
        SkirtsByTheDay x = Check.told("9/5/9", "p11@0;p12@0;p50@1", "");
        Check.due("rule() of " + rule, Check.text(x, rule).rule(), 0);
        Check.due("LAW by " + rule, x.law(2, 1, 3), due);
    }

    private static void numbersOfARule() {
        value("0", 0);
        value("9", 9);
        value("10", 10);
        value("010", 10);
        value("999-989", 10);
        value("000", 0);
        BUSY.emptied("rule()", "1000", -4, o -> o.rule());
        BUSY.emptied("rule()", "0000", -4, o -> o.rule());
        BUSY.emptied("rule()", "h+1000", -6, o -> o.rule());
        value("h", 50);
        value("l", 5);
        value("w", 3);
        value("p", 1);
        value("i", 2);
        BUSY.emptied("rule()", "hl", -2, o -> o.rule());
        BUSY.emptied("rule()", "1h", -2, o -> o.rule());
        BUSY.emptied("rule()", "a", -1, o -> o.rule());
        BUSY.emptied("rule()", "H", -1, o -> o.rule());
        BUSY.emptied("rule()", ":", -1, o -> o.rule());
        BUSY.emptied("rule()", "/", -1, o -> o.rule());
        BUSY.emptied("rule()", "1+:", -3, o -> o.rule());
        BUSY.emptied("rule()", "1:", -2, o -> o.rule());
    }

    /** At most 4 in one another. */
    private static void parentheses() {
        value("((((7))))", 7);
        value("((((7))))+((((1))))", 8);
        value("(7)", 7);
        BUSY.emptied("rule()", "(((((7)))))", -5, o -> o.rule());
        BUSY.emptied("rule()", "((((7))))+(((((", -15, o -> o.rule());
        BUSY.emptied("rule()", "((((7+(1))))", -7, o -> o.rule());
        BUSY.emptied("rule()", "()", -2, o -> o.rule());
        BUSY.emptied("rule()", "(7))", -4, o -> o.rule());
        BUSY.emptied("rule()", "(7", -3, o -> o.rule());
        BUSY.emptied("rule()", ")", -1, o -> o.rule());
    }

    /** They bind least; 1 or 0; not one behind the other. */
    private static void comparisons() {
        value("4<5", 1);
        value("5<5", 0);
        value("6<5", 0);
        value("4>5", 0);
        value("5>5", 0);
        value("6>5", 1);
        value("5=5", 1);
        value("5=4", 0);
        value("1+1=2", 1);
        value("2=1+1", 1);
        value("1+(1=2)", 1);
        value("5+(5<5)", 5);
        value("5+(5>5)", 5);
        value("5+(5<6)", 6);
        value("(4<5)<2", 1);
        value("4<(5<2)", 0);
        value("0-1<0", 1);
        BUSY.emptied("rule()", "1<2<3", -4, o -> o.rule());
        BUSY.emptied("rule()", "1=2>3", -4, o -> o.rule());
        BUSY.emptied("rule()", "1<2+3=4", -6, o -> o.rule());
        BUSY.emptied("rule()", "(1<2<3)", -5, o -> o.rule());
        BUSY.emptied("rule()", "1<<2", -3, o -> o.rule());
        BUSY.emptied("rule()", "<1", -1, o -> o.rule());
    }

    private static void signsAheadOfAThing() {
        value("--7", 7);
        value("-7+8", 1);
        value("8--7", 15);
        value("8---7", 1);
        value("8*-1+9", 1);
        value("8/--2", 4);
        value("-(1-8)", 7);
        value("-h+60", 10);
        value(Check.times("-", 38) + "7", 7);
        value(Check.times("-", 39) + "7", 0);
        value("9+" + Check.times("-", 37) + "7", 2);
        BUSY.emptied("rule()", "-", -2, o -> o.rule());
        BUSY.emptied("rule()", "+7", -1, o -> o.rule());
        BUSY.emptied("rule()", "8-+7", -3, o -> o.rule());
    }

    /** By 0: 0; cut to 0. */
    private static void divisions() {
        value("7/0", 0);
        value("7/0+5", 5);
        value("9-7/(3-w)", 9);
        value("0/0", 0);
        value("7/8", 0);
        value("8/8", 1);
        value("15/8", 1);
        value("9+-15/8", 8);
        value("9+15/-8", 8);
        value("9+-7/8", 9);
        value("9*7/2", 31);
        value("64/4/4", 4);
        value("20-6-4", 10);
        value("2+3*4", 14);
    }

    /** As ints: 512 * 512 * 512 * 16 is one more than the greatest. */
    private static void intsThatWrap() {
        value("512*512*512*16", 0);
        value("512*512*512*16-1", 99);
        value("512*512*512*16/-1", 0);
        value("-(512*512*512*16)", 0);
        value("512*512*512*16<0", 1);
        value("512*512*512*32+7", 7);
    }

    private static void putToALength() {
        value("98", 98);
        value("99", 99);
        value("100", 99);
        value("999*999", 99);
        value("1", 1);
        value("0", 0);
        value("-1", 0);
        value("0-999*999", 0);
        SkirtsByTheDay x = Check.told("9", "p99@0", "50");
        Check.due("LAW at a PLACE with an ALMANAC", x.law(0, 0, 0), 50);
        Check.due("LAW at a PLACE without one", x.law(0, 1, 0), 0);
        Check.due("LAW at the last PLACE", x.law(0, 3, 9999), 0);
    }

    /** 40 signs; 40, if it has more and the first 40 could go on or end. */
    private static void signsOfARule() {
        value(Check.times("1+", 19) + "10", 29);
        value(Check.times("0+", 18) + "(37)", 37);
        value(Check.times("-", 38) + "37", 37);
        value("-i" + Check.times("+i", 19), 36);
        BUSY.emptied("rule()", Check.times("1+", 19) + "100", -41, o -> o.rule());
        BUSY.emptied("rule()", Check.times("1+", 19) + "10+", -41, o -> o.rule());
        BUSY.emptied("rule()", Check.times("1+", 19) + "10x", -41, o -> o.rule());
        BUSY.emptied("rule()", Check.times("1+", 20), -41, o -> o.rule());
        BUSY.emptied("rule()", Check.times("1+", 20) + "1", -41, o -> o.rule());
        BUSY.emptied("rule()", Check.times("1+", 40), -41, o -> o.rule());
        BUSY.emptied("rule()", Check.times("-", 80), -41, o -> o.rule());
        BUSY.emptied("rule()", Check.times("1+", 19) + "1)", -40, o -> o.rule());
        BUSY.emptied("rule()", Check.times("1+", 19) + "1)xx", -40, o -> o.rule());
        BUSY.emptied("rule()", Check.times("1+", 19) + "*1+1", -39, o -> o.rule());
        BUSY.emptied("rule()", Check.times("1+", 18) + "(100)", -41, o -> o.rule());
    }

    private static void rulesThatEndTooEarly() {
        BUSY.emptied("rule()", "1+", -3, o -> o.rule());
        BUSY.emptied("rule()", "1*", -3, o -> o.rule());
        BUSY.emptied("rule()", "1<", -3, o -> o.rule());
        BUSY.emptied("rule()", "(", -2, o -> o.rule());
        BUSY.emptied("rule()", "(1+", -4, o -> o.rule());
        BUSY.emptied("rule()", "(1", -3, o -> o.rule());
    }

    /** An empty one: none. */
    private static void emptyRule() {
        BUSY.emptied("rule()", "", 0, o -> o.rule());
        SkirtsByTheDay x = Check.told("9", "p99@0", "7");
        Check.due("an empty rule behind another", Check.text(x, "").rule(), 0);
        Check.due("h*l/10 again", x.law(0, 0, 0), 89);
        Check.due("a wrong rule behind another", Check.text(x, "7").rule() + Check.text(x, "8+").rule(), -3);
        Check.due("the other stays", x.law(0, 0, 0), 7);
    }

    /** person(): NoSuchElementException: none such, another what. */
    private static void whatIsToldOfPeople() {
        SkirtsByTheDay x = Twins.full();
        int[] due = {99, 1, 7, 29, 0};
        for (int what = 0; what < due.length; what++) {
            Check.due("person(5, " + what + ")", x.person(5, what), due[what]);
        }
        int[] wrong = {6, 7, MAX, -1, MIN};
        for (int p : wrong) {
            FULL.thrown("person(" + p + ", 0)", o -> o.person(p, 0));
        }
        int[] another = {5, MAX, -1, MIN};
        for (int what : another) {
            FULL.thrown("person(5, " + what + ")", o -> o.person(5, what));
            FULL.thrown("person(6, " + what + ")", o -> o.person(6, what));
        }
        BUSY.thrown("person(2, 0)", o -> o.person(2, 0));
        Check.due("without a CLOTH it is not as long, though LAW is 0", Twins.full().person(3, 4), 0);
    }

    /** cloth(): likewise. */
    private static void whatIsToldOfCloths() {
        SkirtsByTheDay x = Twins.full();
        int[] due = {19, 3, 22, 0, 5};
        for (int what = 0; what < due.length; what++) {
            Check.due("cloth(7, " + what + ")", x.cloth(7, what), due[what]);
        }
        int[] wrong = {8, 9, MAX, -1, MIN};
        for (int c : wrong) {
            FULL.thrown("cloth(" + c + ", 0)", o -> o.cloth(c, 0));
        }
        int[] another = {5, MAX, -1, MIN};
        for (int what : another) {
            FULL.thrown("cloth(7, " + what + ")", o -> o.cloth(7, what));
            FULL.thrown("cloth(8, " + what + ")", o -> o.cloth(8, what));
        }
        BUSY.thrown("cloth(3, 0)", o -> o.cloth(3, 0));
    }

    /** light(): WEEKS 0 .. 9999; no ALMANAC, others: NONE. */
    private static void lights() {
        Check.due("light(3, 9999)", Twins.full().light(3, 9999), 0);
        Check.due("light(3, 0)", Twins.full().light(3, 0), 7);
        int[] weeks = {10000, MAX, -1, MIN};
        for (int w : weeks) {
            FULL.refused("light(0, " + w + ")", o -> o.light(0, w));
        }
        int[] places = {4, MAX, -1, MIN};
        for (int place : places) {
            FULL.refused("light(" + place + ", 0)", o -> o.light(place, 0));
        }
        Check.due("the last with an ALMANAC", Twins.busy().light(2, 0), 3);
        BUSY.refused("light(3, 0), no ALMANAC", o -> o.light(3, 0));
    }

    /** law(): PLACES 0 .. 3, WEEKS 0 .. 9999. */
    private static void laws() {
        Check.due("law(5, 3, 0)", Twins.full().law(5, 3, 0), 69);
        Check.due("law(5, 3, 9999)", Twins.full().law(5, 3, 9999), 0);
        Check.due("law(5, 3, 9998)", Twins.full().law(5, 3, 9998), 89);
        int[] weeks = {10000, MAX, -1, MIN};
        for (int w : weeks) {
            FULL.refused("law(0, 0, " + w + ")", o -> o.law(0, 0, w));
        }
        int[] places = {4, MAX, -1, MIN};
        for (int place : places) {
            FULL.refused("law(0, " + place + ", 0)", o -> o.law(0, place, 0));
        }
        int[] people = {6, MAX, -1, MIN};
        for (int p : people) {
            FULL.refused("law(" + p + ", 0, 0)", o -> o.law(p, 0, 0));
        }
        Check.due("law(1, 3, 0) without an ALMANAC", Twins.busy().law(1, 3, 0), 0);
        BUSY.refused("law(2, 0, 0)", o -> o.law(2, 0, 0));
    }

    /** set(): what 0 .. 2, v 0 .. 9. */
    private static void terms() {
        SkirtsByTheDay x = new SkirtsByTheDay();
        int[] first = {3, 2, 1};
        for (int what = 0; what <= 2; what++) {
            Check.due("set(" + what + ", 0)", x.set(what, 0), first[what]);
            Check.due("set(" + what + ", 9)", x.set(what, 9), 0);
            Check.due("set(" + what + ", 9) again", x.set(what, 9), 9);
            int w = what;
            int[] wrong = {10, MAX, -1, MIN};
            for (int v : wrong) {
                BUSY.refused("set(" + w + ", " + v + ")", o -> o.set(w, v));
            }
        }
        int[] another = {3, MAX, -1, MIN};
        for (int what : another) {
            BUSY.refused("set(" + what + ", 5)", o -> o.set(what, 5));
        }
    }

    private static void sheet(int kind, int n, int f, int step, int... lengths) {
        SkirtsByTheDay x = Check.told("", "c50+1;c50+2;c50+3", "");
        String call = "sheet(" + kind + ", " + n + ", " + f + ", " + step + ")";
        int sum = 0;
        for (int c = 0; c < lengths.length; c++) {
            sum += lengths[c];
        }
        Check.due(call, x.sheet(kind, n, f, step), sum);
        for (int c = 0; c < lengths.length; c++) {
            Check.due(call + ", cloth(" + c + ", 0)", x.cloth(c, 0), lengths[c]);
            Check.due(call + ", cloth(" + c + ", 1)", x.cloth(c, 1), c + 1);
        }
        Check.due(call + ", what can be undone", x.count(9), 0);
        Check.due(call + ", numbers of the ROW", x.count(10), 0);
    }

    /** sheet(): kinds 0 .. 3, n up to 8 (NONE: these first); -2: n below 0. */
    private static void sheets() {
        int[] kinds = {4, MAX, -1, MIN};
        int[] tooMany = {9, MAX};
        int[] below = {-1, MIN};
        for (int kind : kinds) {
            BUSY.refused("sheet(" + kind + ", 1, 1, 1)", o -> o.sheet(kind, 1, 1, 1));
            BUSY.refused("sheet(" + kind + ", -1, 1, 1)", o -> o.sheet(kind, -1, 1, 1));
            BUSY.refused("sheet(" + kind + ", 9, 1, 1)", o -> o.sheet(kind, 9, 1, 1));
        }
        for (int kind = 0; kind <= 3; kind++) {
            int k = kind;
            for (int n : tooMany) {
                BUSY.refused("sheet(" + k + ", " + n + ", 1, 1)", o -> o.sheet(k, n, 1, 1));
            }
        }
        for (int kind = 0; kind <= 2; kind++) {
            int k = kind;
            for (int n : below) {
                BUSY.refused("sheet(" + k + ", " + n + ", 1, 1)", -2, o -> o.sheet(k, n, 1, 1));
            }
            sheet(kind, 0, 7, 1, 0, 0, 0);
            sheet(kind, 1, 7, 1, 7, 0, 0);
            sheet(kind, 2, 7, 1, 7, 8, 0);
            sheet(kind, 3, 7, 1, 7, 8, 9);
            sheet(kind, 4, 7, 1, 7, 8, 9);
            sheet(kind, 8, 7, 1, 7, 8, 9);
            sheet(kind, 3, 99, 0, 99, 99, 99);
            sheet(kind, 3, 100, -1, 99, 99, 98);
            sheet(kind, 3, -1, 1, 0, 0, 1);
            sheet(kind, 3, 1, -1, 1, 0, 0);
        }
        SkirtsByTheDay x = Twins.full();
        Check.due("eight entries for eight CLOTHS", x.sheet(2, 8, 1, 1), 36);
        Check.due("the eighth", x.cloth(7, 0), 8);
        SkirtsByTheDay none = new SkirtsByTheDay();
        Check.due("a sheet for no CLOTHS", none.sheet(2, 8, 1, 1), 0);
    }

    private static void sheetsOfBytes() {
        sheet(0, 3, 127, 1, 99, 0, 0);
        sheet(0, 3, 255, 1, 0, 0, 1);
        sheet(0, 3, 256 + 5, 256, 5, 5, 5);
        sheet(0, 3, -128, 127, 0, 0, 99);
        sheet(0, 2, MAX, 2, 0, 1, 0);
    }

    private static void sheetsOfShorts() {
        sheet(1, 3, 127, 1, 99, 99, 99);
        sheet(1, 3, 32767, 1, 99, 0, 0);
        sheet(1, 3, 65535, 1, 0, 0, 1);
        sheet(1, 3, 65536 + 5, 65536, 5, 5, 5);
        sheet(1, 2, MAX, 2, 0, 1, 0);
    }

    private static void sheetsOfInts() {
        sheet(2, 3, 32767, 1, 99, 99, 99);
        sheet(2, 3, 65536, 1, 99, 99, 99);
        sheet(2, 2, MAX, 1, 99, 0, 0);
        sheet(2, 3, MIN, MAX, 0, 0, 99);
        sheet(2, 3, -1, MIN, 0, 99, 0);
    }

    /** A missing one: -3, all 0; n below 0 is not looked at. */
    private static void missingSheets() {
        int[] fine = {0, 8, -1, MIN};
        for (int n : fine) {
            SkirtsByTheDay x = Twins.busy();
            Check.due("sheet(3, " + n + ", 5, 5)", x.sheet(3, n, 5, 5), -3);
            for (int c = 0; c < 3; c++) {
                Check.due("cloth(" + c + ", 0) then", x.cloth(c, 0), 0);
            }
            Check.due("HEMS stay", x.cloth(0, 1) * 100 + x.cloth(1, 1) * 10 + x.cloth(2, 1), 333);
            Check.due("who wears what stays", x.cloth(0, 4) * 10 + x.cloth(1, 4), 1);
            Check.due("what can be undone stays", x.count(9), 12);
        }
    }
}
