/** Promises 32 to 35: idle, nearest, dress, ready. */
public final class FamilyTest {
    public static void main(String[] args) {
        idle();
        nearest();
        dress();
        dressByLeastRow();
        dressAll();
        ready();
        Check.finish("FamilyTest");
    }

    private static void idle() {
        SkirtsByTheDay x = Check.told("5", "p50@0;p40@0;p30@0;c25;c20;c15;c1", "");
        Check.due("idle()", x.idle(), 15);
        Check.row("idle()", x, 3, 7);
        x.wear(1, 2);
        x.wear(0, 0);
        Check.due("idle() then", x.idle(), 10);
        Check.row("idle() then", x, 1, 4);
        x.wear(2, 3);
        Check.due("idle() of all dressed", x.idle(), 2);
        Check.row("idle() of all dressed", x, 0, 0);
    }

    private static void nearest() {
        SkirtsByTheDay x = Check.told("5", "p50@0;p40@0;c40;c20+5;c27;c25+9;c25", "");
        x.wear(1, 3);
        Check.due("as long: nothing", x.nearest(0), 4);
        Check.row("it", x, 0);
        x.wear(1, 4);
        Check.due("of one that wears none: the hem beyond the most", x.nearest(0), 3);
        Check.row("it", x, 0);
        x.make(3, 99);
        Check.due("none that another wears; of as cheap ones the first", x.nearest(0), 1);
        Check.row("it", x, 1);
        x.wear(0, 1);
        Check.due("its own", x.nearest(0), 1);
        Check.due("of the other: its own can be taken in", x.nearest(1), 0);
        Check.row("cut", x, 2);
        Check.due("nearest(2)", x.nearest(2), -1);
        Check.due("nearest(-1)", x.nearest(-1), -1);
        Check.row("they leave the row", x, 2);
        SkirtsByTheDay y = Check.told("5", "p50@0;p40@0;c40", "");
        y.wear(1, 0);
        y.idle();
        Check.due("there is none", y.nearest(0), -2);
        Check.row("it leaves the row", y, 1, 1);
        Check.due("its own is there", y.nearest(1), 0);
    }

    private static void dress() {
        SkirtsByTheDay x = Check.told("5", "p50@0;p40@0;p60@3;c24;c25;c23", "");
        x.wear(1, 1);
        Check.due("dress(1): worn ones too", x.dress(1), 0);
        Check.row("dress(1)", x, 1);
        Check.due("dress(3)", x.dress(3), 1);
        Check.row("dress(3)", x, 1, 2);
        Check.due("dress(5)", x.dress(5), 2);
        Check.row("dress(5)", x, 1, 0);
        Check.due("dress(7)", x.dress(7), 3);
        Check.row("dress(7)", x, 1, 2, 0);
        Check.due("dress(8)", x.dress(8), -1);
        Check.due("dress(-1)", x.dress(-1), -1);
        Check.due("dress(1 << 31)", x.dress(1 << 31), -1);
        Check.row("they leave the row", x, 1, 2, 0);
        Check.due("nobody is dressed by it", x.person(0, 2), -1);
        Check.due("dress(0)", x.dress(0), 0);
        Check.row("dress(0)", x);
        SkirtsByTheDay few = Check.told("5", "p50@0;p40@0;c24", "");
        Check.due("not so many cloths", few.dress(3), -2);
        Check.due("bits of none such, and not so many cloths", few.dress(7), -1);
        Check.due("one of two", few.dress(2), 2);
        Check.row("one of two", few, 0);
    }

    private static void dressByLeastRow() {
        SkirtsByTheDay x = Check.told("5", "p50@0;p50@0;p50@0;c30;c31;c25;c32;c25", "");
        Check.due("two as long and a cut", x.dress(7), 2);
        Check.row("of as cheap ones the least row", x, 0, 2, 4);
        x.set(2, 0);
        x.set(1, 0);
        Check.due("all for nothing", x.dress(7), 0);
        Check.row("the least row", x, 0, 1, 2);
    }

    private static void dressAll() {
        SkirtsByTheDay x = Check.told("9", "p10@0;p20@0;p30@0;p40@0;p50@0;p60@0;c54;c45;c36;c27;c18;c9;c0;c1", "");
        Check.due("each has its own", x.dress(63), 0);
        Check.row("each has its own", x, 5, 4, 3, 2, 1, 0);
        x.make(5, 60);
        Check.due("one is cut", x.dress(63), 2);
        Check.row("one is cut", x, 5, 4, 3, 2, 1, 0);
        x.make(5, 9);
        x.make(0, 2);
        // 12 and 5 inches for 54 and 9: the shorter one for the shorter, though it is joined too
        Check.due("two are joined", x.dress(63), (42 + 4) * 2 + 3 + 3);
        Check.row("two are joined", x, 0, 4, 3, 2, 1, 5);
    }

    private static void ready() {
        SkirtsByTheDay x = Check.told("5", "p50@0;p50@0;p40@0;p50@0;p10@3;c25;c20+9;c25", "");
        Check.due("ready()", x.ready(), 3);
        Check.row("of as many the least", x, 7);
        x.wear(3, 0);
        Check.due("whoever wears them", x.ready(), 3);
        Check.row("whoever wears them", x, 7);
        x.make(1, 0);
        Check.due("0 is as long as the law of no almanac", x.ready(), 3);
        Check.row("0", x, 1 + 2 + 16);
        x.make(0, 1);
        x.make(1, 2);
        x.make(2, 3);
        Check.due("none", x.ready(), 0);
        Check.row("none", x, 0);
    }
}
