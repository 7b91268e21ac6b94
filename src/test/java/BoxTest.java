/** Promises 20 to 23: piece, sell, patches, quilt. */
public final class BoxTest {
    public static void main(String[] args) {
        piece();
        sell();
        patches();
        leastBits();
        patchesOfTwenty();
        choicesByChance();
        longestPieces();
        quilt();
        Check.finish("BoxTest");
    }

    /** A box of these pieces, cut one by one off a cloth of 99 inches without a hem. */
    private static SkirtsByTheDay boxOf(int... pieces) {
        SkirtsByTheDay x = Check.told("", "c99", "");
        x.set(0, 0);
        for (int inches : pieces) {
            x.make(0, 99);
            x.make(0, 99 - inches);
        }
        for (int i = 0; i < pieces.length; i++) {
            Check.due("piece " + i, x.piece(i), pieces[i]);
        }
        return x;
    }

    private static void piece() {
        SkirtsByTheDay x = boxOf(5, 3, 9);
        Check.due("how many", x.count(4), 3);
        Check.due("how much", x.count(5), 17);
        Check.none("piece(3)", () -> x.piece(3));
        Check.none("piece(-1)", () -> x.piece(-1));
    }

    private static void sell() {
        SkirtsByTheDay x = boxOf(5, 3, 9);
        int purse = x.count(6);
        Check.due("sell(3, 1)", x.sell(3, 1), -1);
        Check.due("sell(-1, 1)", x.sell(-1, 1), -1);
        Check.due("sell(0, 10)", x.sell(0, 10), -1);
        Check.due("sell(0, -1)", x.sell(0, -1), -1);
        Check.due("sell(1, 9)", x.sell(1, 9), 27);
        Check.due("the purse", x.count(6), purse + 27);
        Check.due("those behind it move up", x.piece(1), 9);
        Check.due("how many", x.count(4), 2);
        Check.due("sell(0, 0)", x.sell(0, 0), 0);
        Check.due("the one left", x.piece(0), 9);
        int before = x.count(9);
        x.undo();
        Check.due("undo()", x.count(9), before - 1);
        Check.due("it is back", x.piece(0), 5);
    }

    private static void patches() {
        SkirtsByTheDay x = boxOf(5, 3, 9);
        found(x, 1, 1, 2, 2);
        found(x, 3, 1, 0, 2);
        found(x, 4, 1, 1, 1);
        found(x, 9, 1, 0, 4);
        found(x, 10, 2, 2, 6);
        found(x, 13, 2, 1, 5);
        found(x, 15, 3, 2, 7);
        found(x, 17, 3, 0, 7);
        Check.due("patches(18)", x.patches(18), -2);
        Check.due("patches(999)", x.patches(999), -2);
        Check.due("patches(0)", x.patches(0), -1);
        Check.due("patches(1000)", x.patches(1000), -1);
        Check.row("they leave the row", x, 0, 7);
        Check.due("nothing is gone", x.count(4), 3);
        Check.due("patches(1) of none", new SkirtsByTheDay().patches(1), -2);
    }

    private static void found(SkirtsByTheDay x, int v, int many, int more, int bits) {
        Check.due("patches(" + v + ")", x.patches(v), many);
        Check.row("patches(" + v + ")", x, more, bits);
    }

    private static void leastBits() {
        SkirtsByTheDay x = boxOf(4, 6, 5, 5, 6, 4);
        found(x, 10, 2, 0, 3);
        found(x, 6, 1, 0, 2);
        found(x, 5, 1, 0, 4);
        found(x, 4, 1, 0, 1);
        found(x, 12, 2, 0, 18);
        found(x, 16, 3, 0, 14);
        found(x, 11, 2, 0, 6);
    }

    private static void patchesOfTwenty() {
        int[] all = new int[20];
        java.util.Arrays.fill(all, 50);
        SkirtsByTheDay x = boxOf(all);
        found(x, 999, 20, 1, (1 << 20) - 1);
        found(x, 451, 10, 49, 1023);
        all[0] = 1;
        all[19] = 99;
        x = boxOf(all);
        found(x, 999, 19, 0, (1 << 20) - 2);
        found(x, 99, 1, 0, 1 << 19);
        found(x, 150, 3, 0, 14);
        found(x, 198, 3, 1, 1 << 19 | 6);
    }

    /** Many pieces, more than ModelTest has, against all choices of them. */
    private static void choicesByChance() {
        for (int run = 0; run < 12; run++) {
            java.util.Random random = new java.util.Random(run);
            int[] inches = new int[12 + random.nextInt(9)];
            int longest = run % 3 == 0 ? 6 : run % 3 == 1 ? 30 : 99;
            for (int i = 0; i < inches.length; i++) {
                inches[i] = 1 + random.nextInt(longest);
            }
            int[] sums = new int[1 << inches.length];
            for (int bits = 1; bits < sums.length; bits++) {
                sums[bits] = sums[bits & bits - 1] + inches[Integer.numberOfTrailingZeros(bits)];
            }
            SkirtsByTheDay x = boxOf(inches);
            for (int k = 0; k < 10; k++) {
                int v = 1 + random.nextInt(Math.min(999, sums[sums.length - 1]));
                int best = bestOf(sums, v);
                found(x, v, Integer.bitCount(best), sums[best] - v, best);
            }
        }
    }

    private static int bestOf(int[] sums, int v) {
        int best = sums.length - 1;
        for (int bits = sums.length - 1; bits > 0; bits--) {
            int fewer = Integer.bitCount(best) - Integer.bitCount(bits);
            if (sums[bits] >= v && (fewer > 0 || fewer == 0 && sums[bits] <= sums[best])) {
                best = bits;
            }
        }
        return best;
    }

    /** No piece is longer than 108. */
    private static void longestPieces() {
        SkirtsByTheDay x = Check.told("", "c99+9;c99+9;c99+9;c99+9;c99+9;c99+9;c99+9;c99+9", "");
        x.set(0, 0);
        x.make(0, 0);
        found(x, 1, 1, 107, 1);
        found(x, 108, 1, 0, 1);
        for (int c = 1; c < 8; c++) {
            x.make(c, 0);
        }
        found(x, 109, 2, 107, 3);
        found(x, 757, 8, 107, 255);
        found(x, 864, 8, 0, 255);
        for (int c = 0; c < 4; c++) {
            x.make(c, 99);
            x.make(c, 0);
        }
        found(x, 864, 8, 0, 255);
        found(x, 865, 9, 5 * 108 + 4 * 99 - 865, 3840 + 31);
        found(x, 999, 10, 6 * 108 + 4 * 99 - 999, 3840 + 63);
    }

    private static void quilt() {
        SkirtsByTheDay x = boxOf(5, 3, 9, 5);
        x.set(2, 4);
        int purse = x.count(6);
        x.patches(17);
        Check.row("patches(17)", x, 0, 7);
        Check.due("quilt(0)", x.quilt(0), -1);
        Check.due("quilt(1000)", x.quilt(1000), -1);
        Check.due("quilt(23)", x.quilt(23), -2);
        int undone = x.count(9);
        Check.due("quilt(10)", x.quilt(10), 4);
        Check.row("it leaves the row", x, 0, 7);
        Check.due("the purse", x.count(6), purse - 4);
        Check.due("what is left", x.count(4), 2);
        Check.due("in its order", x.piece(0) * 10 + x.piece(1), 39);
        Check.due("quilt(5) of one piece", x.quilt(5), 0);
        Check.due("the last", x.piece(0), 3);
        Check.due("both can be undone", x.count(9), undone + 2 > 12 ? 12 : undone + 2);
        x.undo();
        x.undo();
        x.make(0, 99);
        x.undo();
        Check.due("quilt(14) behind a make() that bought", x.quilt(14), 4);
        x.undo();
        Check.due("they are back", x.count(5), 22);
        Check.due("the purse too", x.count(6), purse);
    }
}
