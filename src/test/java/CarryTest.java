import java.util.Random;

/** Promises 22 to 26: LINKS, WANTS, LEAST, PRICES. */
public final class CarryTest {
    public static void main(String[] args) {
        wrongCalls();
        oneLink();
        overOthers();
        carriedAnother();
        noWay();
        nothingMoves();
        prices();
        small();
        great();
        manyOrOne();
        dual();
        Check.close();
    }

    private static SkiHill hill(int cells) {
        SkiHill x = new SkiHill();
        for (int left = cells; left > 0; left -= 4) {
            x.slope(0, 1, 1, 0, Math.min(left, 4));
        }
        return x;
    }

    private static void over(SkiHill x, int cell, int hundredths) {
        for (int left = hundredths; left > 0; left -= 100000) {
            x.snow(cell, left % 2 == 0, Math.min(left, 100000));
        }
    }

    private static void wrongCalls() {
        SkiHill x = hill(3);
        for (int bad : new int[] {-1, 3, Integer.MIN_VALUE, Integer.MAX_VALUE}) {
            Check.place("23: want(" + bad + ")", () -> want(x, bad, 1));
            Check.place("23: no cell ahead of a wrong number", () -> want(x, bad, -1));
            Check.place("25: price(" + bad + ")", () -> price(x, bad, 1));
            Check.place("25: no cell ahead of a wrong number", () -> price(x, bad, 10001));
        }
        for (int bad : new int[] {-1, 1000001, Integer.MIN_VALUE, Integer.MAX_VALUE}) {
            Check.number("23: want " + bad, () -> want(x, 0, bad));
        }
        for (int bad : new int[] {-10001, 10001, Integer.MIN_VALUE, Integer.MAX_VALUE}) {
            Check.number("25: price " + bad, () -> price(x, 0, bad));
        }
        Check.due("23: as it was", x.cell(0, 6), 0);
        Check.due("25: as it was", x.cell(0, 7), 0);
        x.want(0, 1000000);
        x.price(0, 10000);
        Check.due("23: the most", x.cell(0, 6), 1000000);
        Check.due("25: the most", x.cell(0, 7), 10000);
        x.want(0, 0);
        x.price(0, -10000);
        Check.due("23: the least", x.cell(0, 6), 0);
        Check.due("25: the least", x.cell(0, 7), -10000);
    }

    private static long want(SkiHill x, int cell, int hundredths) {
        x.want(cell, hundredths);
        return 0;
    }

    private static long price(SkiHill x, int cell, int v) {
        x.price(cell, v);
        return 0;
    }

    private static void oneLink() {
        SkiHill x = hill(2);
        x.snow(0, false, 100);
        Check.due("24: too much alone costs nothing", x.least(), 0);
        x.want(1, 10);
        Check.due("24: without a link", x.least(), SkiHill.NONE);
        x.link(0, 1, 7);
        Check.due("24: 10 over 7", x.least(), 70);
        x.want(0, 90);
        Check.due("24: just enough", x.least(), 70);
        x.want(0, 91);
        Check.due("24: one too few", x.least(), SkiHill.NONE);
        x.want(0, 0);
        x.link(1, 0, 3);
        Check.due("24: a shorter link of the same cells", x.least(), 30);
        x.link(0, 1, 100);
        Check.due("24: a longer one", x.least(), 30);
        x.melt(0, 100);
        x.snow(1, true, 100);
        Check.due("24: nothing missing", x.least(), 0);
        x.want(0, 20);
        Check.due("24: the other way", x.least(), 60);
        x.push(1);
        Check.due("24: of any kind", x.least(), 60);
    }

    private static void overOthers() {
        SkiHill x = hill(5);
        x.snow(0, false, 50);
        x.want(4, 20);
        for (int k = 0; k < 4; k++) {
            x.link(k, k + 1, 10);
        }
        Check.due("24: over three others", x.least(), 800);
        x.want(2, 5);
        Check.due("24: over one where some is missing", x.least(), 900);
        x.snow(3, false, 8);
        Check.due("24: the nearest first", x.least(), 12 * 40 + 8 * 10 + 5 * 20);
        x.link(0, 4, 39);
        Check.due("24: one long link", x.least(), 12 * 39 + 8 * 10 + 5 * 20);
        x.link(0, 4, 41);
        Check.due("24: a longer link", x.least(), 12 * 39 + 8 * 10 + 5 * 20);
    }

    private static void carriedAnother() {
        // What is nearest to one is needed by another: 1 could serve 2 or 3, 0 only 2.
        SkiHill x = hill(4);
        x.snow(0, false, 10);
        x.snow(1, false, 10);
        x.want(2, 10);
        x.want(3, 10);
        x.link(0, 2, 5);
        x.link(1, 2, 1);
        x.link(1, 3, 50);
        Check.due("24: 1 is kept for 3", x.least(), 550);
        x.link(0, 3, 53);
        Check.due("24: the better of both ways", x.least(), 540);
        x.link(0, 3, 60);
        Check.due("24: a longer link changes nothing", x.least(), 540);
    }

    private static void noWay() {
        SkiHill x = hill(6);
        x.snow(0, false, 100);
        x.snow(3, false, 5);
        x.want(2, 10);
        x.want(4, 6);
        x.link(0, 1, 1);
        x.link(1, 2, 1);
        x.link(3, 4, 1);
        Check.due("24: enough in all, too little there", x.least(), SkiHill.NONE);
        x.want(4, 5);
        Check.due("24: just enough", x.least(), 25);
        x.want(5, 1);
        Check.due("24: a cell without a link", x.least(), SkiHill.NONE);
        x.link(5, 2, 100);
        Check.due("24: with a link", x.least(), 127);
    }

    private static void nothingMoves() {
        SkiHill x = hill(2);
        x.snow(0, false, 100);
        x.want(1, 10);
        x.link(0, 1, 7);
        for (int k = 0; k < 3; k++) {
            Check.due("24: asked again", x.least(), 70);
            Check.due("24: nothing is carried", x.cell(0, 4), 100);
            Check.due("24: nothing is carried", x.cell(1, 4), 0);
        }
        Check.due("27: melted", x.count(9), 0);
    }

    private static void prices() {
        SkiHill x = hill(4);
        x.link(0, 1, 5);
        x.link(2, 1, 3);
        x.price(0, 10000);
        Check.thrown("26: apart", IllegalStateException.class, x::judge);
        x.price(1, 9995);
        Check.thrown("26: apart further on", IllegalStateException.class, x::judge);
        x.price(2, 9998);
        Check.due("26: taken", x.judge(), 0);
        x.price(2, 9999);
        Check.thrown("26: four apart over three", IllegalStateException.class, x::judge);
        x.price(2, 9992);
        Check.due("26: taken on the other side", x.judge(), 0);
        x.price(2, 9991);
        Check.thrown("26: apart on the other side", IllegalStateException.class, x::judge);
        x.price(2, 9993);
        // A cell without a link has any price.
        x.price(3, -10000);
        x.want(3, 4);
        Check.due("26: a price below 0 where some is missing", x.judge(), -40000);
        x.want(3, 0);
        x.snow(3, false, 9);
        Check.due("26: too much at a price below 0", x.judge(), 0);
        x.price(3, 2);
        Check.due("26: too much at a price above 0", x.judge(), -18);
        x.price(3, 1);
        Check.due("26: too much at 1", x.judge(), -9);
        x.price(3, 0);
        Check.due("26: too much at 0", x.judge(), 0);
        x.want(0, 1000000);
        x.want(1, 1000000);
        x.want(2, 1000000);
        Check.due("26: a great sum", x.judge(), 1000000L * (10000 + 9995 + 9993));
        x.price(3, 10000);
        Check.due("26: both", x.judge(), 1000000L * (10000 + 9995 + 9993) - 90000);
        x.want(3, 9);
        Check.due("26: just what it wants", x.judge(), 1000000L * (10000 + 9995 + 9993));
    }

    /** Small hills against a count of all ways to give each missing hundredth one that is over. */
    private static void small() {
        Random random = new Random(7);
        int served = 0;
        for (int round = 0; round < 3000; round++) {
            int cells = 2 + random.nextInt(7);
            SkiHill x = hill(cells);
            long[][] apart = new long[cells][cells];
            for (long[] row : apart) {
                java.util.Arrays.fill(row, Long.MAX_VALUE / 4);
            }
            int links = random.nextInt(2 * cells + 1);
            for (int k = 0; k < links; k++) {
                int a = random.nextInt(cells);
                int b = (a + 1 + random.nextInt(cells - 1)) % cells;
                int length = 1 + random.nextInt(round % 2 == 0 ? 4 : 100);
                x.link(a, b, length);
                apart[a][b] = Math.min(apart[a][b], length);
                apart[b][a] = apart[a][b];
            }
            int[] balance = new int[cells];
            int over = 0;
            int under = 0;
            for (int k = 0; k < cells; k++) {
                int amount = random.nextInt(4);
                if (random.nextBoolean() && over + amount <= 9) {
                    balance[k] = amount;
                    over += amount;
                } else if (under + amount <= 6) {
                    balance[k] = -amount;
                    under += amount;
                }
                int both = random.nextInt(50);
                x.snow(k, false, both + Math.max(balance[k], 0));
                x.want(k, both + Math.max(-balance[k], 0));
            }
            long due = allWays(apart, balance);
            served += due > 0 ? 1 : 0;
            Check.due("24: small hill " + round, x.least(), due);
        }
        Check.due("24: many of the small hills are served", served > 500, true);
    }

    private static long allWays(long[][] apart, int[] balance) {
        int cells = balance.length;
        for (int k = 0; k < cells; k++) {
            apart[k][k] = 0;
        }
        for (int k = 0; k < cells; k++) {
            for (int a = 0; a < cells; a++) {
                for (int b = 0; b < cells; b++) {
                    apart[a][b] = Math.min(apart[a][b], apart[a][k] + apart[k][b]);
                }
            }
        }
        int[] given = new int[10];
        int[] taken = new int[10];
        int givers = 0;
        int takers = 0;
        for (int k = 0; k < cells; k++) {
            for (int n = 0; n < balance[k]; n++) {
                given[givers++] = k;
            }
            for (int n = 0; n < -balance[k]; n++) {
                taken[takers++] = k;
            }
        }
        long none = Long.MAX_VALUE / 4;
        long[] best = new long[1 << givers];
        java.util.Arrays.fill(best, none);
        best[0] = 0;
        long least = takers == 0 ? 0 : none;
        for (int used = 0; used < best.length; used++) {
            int next = Integer.bitCount(used);
            if (best[used] >= none || next >= takers) {
                continue;
            }
            for (int k = 0; k < givers; k++) {
                if ((used >> k & 1) == 0) {
                    int then = used | 1 << k;
                    best[then] = Math.min(best[then], best[used] + apart[given[k]][taken[next]]);
                    if (next + 1 == takers) {
                        least = Math.min(least, best[then]);
                    }
                }
            }
        }
        return least >= none ? SkiHill.NONE : least;
    }

    /** Forty CELLS in a row, the greatest amounts and lengths. */
    private static void great() {
        SkiHill x = hill(40);
        for (int k = 0; k < 39; k++) {
            x.link(k, k + 1, 100);
        }
        long due = 0;
        for (int k = 1; k < 20; k++) {
            x.want(k, 1000000);
            due += 1000000L * 100 * (39 - k);
        }
        over(x, 39, 19000000);
        Check.due("24: forty in a row", x.least(), due);
        x.want(20, 1);
        Check.due("24: one too few", x.least(), SkiHill.NONE);
        x.snow(0, false, 1);
        // Pushing one along from the other end spares what 39 would give to cell 1.
        Check.due("24: one from the other end", x.least(), due - 3800 + 100 + 1900);
    }

    /** Many short LINKS against one long one that is a little longer, as long and a little shorter. */
    private static void manyOrOne() {
        for (int length = 38; length <= 41; length++) {
            SkiHill x = hill(40);
            for (int k = 38; k >= 0; k--) {
                x.link(k + 1, k, 1);
            }
            x.link(39, 0, length);
            x.snow(0, true, 1000);
            x.want(39, 1000);
            Check.due("24: 39 links of 1 or one of " + length, x.least(), 1000 * Math.min(39, length));
        }
    }

    /** What taken PRICES tell is never above LEAST, and the PRICES of the shortest ways reach it in a row of CELLS. */
    private static void dual() {
        Random random = new Random(11);
        for (int round = 0; round < 300; round++) {
            int cells = 3 + random.nextInt(20);
            SkiHill x = hill(cells);
            for (int k = 1; k < cells; k++) {
                x.link(random.nextInt(k), k, 1 + random.nextInt(100));
            }
            over(x, 0, 100000);
            for (int k = 1; k < cells; k++) {
                x.want(k, random.nextInt(100000 / cells));
            }
            long least = x.least();
            Check.due("24: a tree is served", least >= 0, true);
            int[] far = new int[cells];
            for (int k = 1; k < cells; k++) {
                far[k] = farOf(x, k);
                x.price(k, far[k]);
            }
            Check.due("26: prices of a tree reach the least", x.judge(), least);
            x.price(cells - 1, far[cells - 1] - 1);
            boolean below;
            try {
                below = x.judge() <= least;
            } catch (IllegalStateException e) {
                below = true;
            }
            Check.due("26: never above the least", below, true);
        }
    }

    /** How far a CELL is from CELL 0: what one hundredth to it costs more. */
    private static int farOf(SkiHill x, int cell) {
        long before = x.least();
        int want = x.cell(cell, 6);
        x.want(cell, want + 1);
        long behind = x.least();
        x.want(cell, want);
        return (int) (behind - before);
    }
}
