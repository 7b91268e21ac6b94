/** Promises 43 to 47: job, rest, late, timely, hired. */
public final class TailorsTest {
    public static void main(String[] args) {
        job();
        late();
        timely();
        hired();
        Check.finish("TailorsTest");
    }

    private static SkirtsByTheDay jobs(int... hoursAndDues) {
        SkirtsByTheDay x = new SkirtsByTheDay();
        for (int k = 0; k + 1 < hoursAndDues.length; k += 2) {
            Check.due("job()", x.job(hoursAndDues[k], hoursAndDues[k + 1]), k / 2 + 1);
        }
        return x;
    }

    private static void job() {
        SkirtsByTheDay x = jobs(1, 0, 20, 99);
        Check.due("job(0, 5)", x.job(0, 5), -1);
        Check.due("job(21, 5)", x.job(21, 5), -1);
        Check.due("job(1, -1)", x.job(1, -1), -1);
        Check.due("job(1, 100)", x.job(1, 100), -1);
        Check.due("count(8)", x.count(8), 2);
        for (int k = 3; k <= 7; k++) {
            Check.due("job " + k, x.job(5, 5), k);
        }
        Check.due("an eighth", x.job(5, 5), -2);
        Check.due("a wrong eighth", x.job(0, 5), -1);
        Check.due("rest()", x.rest(), 7);
        Check.due("rest() again", x.rest(), 0);
        Check.due("count(8)", x.count(8), 0);
        Check.due("a first", x.job(5, 5), 1);
    }

    private static void late() {
        SkirtsByTheDay x = jobs();
        Check.due("late() of nothing", x.late(), 0);
        Check.row("late() of nothing", x);
        x = jobs(3, 3, 2, 2, 4, 9);
        Check.due("late()", x.late(), 2);
        Check.row("late()", x, 1, 0, 2);
        x = jobs(5, 99, 5, 99, 5, 99);
        Check.due("none late", x.late(), 0);
        Check.row("the least row", x, 0, 1, 2);
        x = jobs(5, 99, 5, 5, 5, 10);
        Check.due("none late", x.late(), 0);
        Check.row("the first has to wait", x, 1, 2, 0);
        x = jobs(20, 0, 1, 0);
        Check.due("the short one first", x.late(), 1 + 21);
        Check.row("the short one first", x, 1, 0);
        x = jobs(2, 0, 2, 0, 2, 0, 2, 0, 2, 0, 2, 0, 2, 0);
        Check.due("seven", x.late(), 2 * 28);
        Check.row("seven", x, 0, 1, 2, 3, 4, 5, 6);
    }

    private static void timely() {
        SkirtsByTheDay x = jobs();
        Check.due("timely() of nothing", x.timely(), 0);
        Check.row("timely() of nothing", x, 0);
        x = jobs(3, 3, 2, 2, 4, 9);
        Check.due("timely()", x.timely(), 2);
        Check.row("of as many the least", x, 5);
        x = jobs(5, 4, 6, 5);
        Check.due("none", x.timely(), 0);
        Check.row("none", x, 0);
        x = jobs(10, 10, 5, 5, 5, 10);
        Check.due("two short ones", x.timely(), 2);
        Check.row("two short ones", x, 6);
        x = jobs(1, 7, 1, 6, 1, 5, 1, 4, 1, 3, 1, 2, 1, 1);
        Check.due("all", x.timely(), 7);
        Check.row("all", x, 127);
    }

    private static void hired() {
        SkirtsByTheDay x = jobs();
        Check.due("hired(3) of nothing", x.hired(3), 0);
        Check.row("hired(3) of nothing", x);
        x = jobs(3, 3, 2, 2, 4, 9);
        Check.due("hired(1)", x.hired(1), 9);
        Check.row("hired(1)", x, 0, 0, 0);
        Check.due("hired(2)", x.hired(2), 5);
        Check.row("hired(2)", x, 0, 0, 1);
        Check.due("hired(3)", x.hired(3), 4);
        Check.row("hired(3)", x, 0, 1, 2);
        Check.due("hired(0)", x.hired(0), -1);
        Check.due("hired(4)", x.hired(4), -1);
        Check.row("they leave the row", x, 0, 1, 2);
        x = jobs(5, 0, 5, 0, 4, 0, 4, 0, 3, 0, 3, 0, 3, 0);
        Check.due("seven of two", x.hired(2), 14);
        Check.row("seven of two", x, 0, 0, 0, 1, 1, 1, 1);
        Check.due("seven of three", x.hired(3), 9);
        Check.row("seven of three", x, 0, 1, 0, 1, 2, 2, 2);
        x = jobs(20, 0, 1, 0, 1, 0);
        Check.due("as many as can at one's", x.hired(3), 20);
        Check.row("as many as can at one's", x, 0, 1, 1);
    }
}
