/** Section 4 and promises 22 to 26: each sentence that names an edge has a test of its own. */
public final class EdgeCarryTest {
    private static final int LOWEST = Integer.MIN_VALUE;
    private static final int HIGHEST = Integer.MAX_VALUE;

    public static void main(String[] args) {
        linksAtMost();
        unlikeCells();
        lengths();
        bothWays();
        wantAtFirst();
        wants();
        aboveAndMissing();
        justWhatIsMissing();
        noneGivesMore();
        leastSum();
        noSuchWay();
        overOthers();
        nothingCarried();
        greatSums();
        pricesAtFirst();
        pricesNumbers();
        apart();
        priceAboveNothing();
        tell();
        greatPrices();
        Check.close();
    }

    private static SkiHill hill(int cells) {
        SkiHill x = new SkiHill();
        for (int left = cells; left > 0; left -= 4) {
            x.slope(0, 1, 1, 0, Math.min(4, left));
        }
        return x;
    }

    private static void linksAtMost() {
        Check.sentence("LINKS (at most 80)");
        SkiHill x = hill(40);
        for (int k = 1; k <= 80; k++) {
            Check.due("how many there are", x.link(k % 40, (k + 1 + k / 40) % 40, k), k);
            Check.due("count(5)", x.count(5), k);
        }
        Check.full("an eighty-first", () -> x.link(0, 1, 1));
        Check.due("as many", x.count(5), 80);
        // The eighty-first is none: what it would shorten is as long as before.
        SkiHill y = hill(2);
        for (int k = 0; k < 80; k++) {
            y.link(0, 1, 100 - k % 50);
        }
        y.snow(0, true, 1);
        y.want(1, 1);
        Check.full("an eighty-first", () -> y.link(0, 1, 1));
        Check.due("the shortest of eighty", y.least(), 51);
    }

    private static void unlikeCells() {
        Check.sentence("between two unlike CELLS");
        SkiHill x = hill(40);
        for (int cell = 0; cell < 40; cell++) {
            int one = cell;
            Check.number("link of one cell", () -> x.link(one, one, 1));
        }
        Check.due("none came", x.count(5), 0);
        Check.due("the first and the last", x.link(0, 39, 1), 1);
        for (int none : new int[] {-1, 40, 41, LOWEST, HIGHEST}) {
            Check.place("link(" + none + ", 0, 1)", () -> x.link(none, 0, 1));
            Check.place("link(0, " + none + ", 1)", () -> x.link(0, none, 1));
            Check.place("two that are one, and none", () -> x.link(none, none, 1));
        }
    }

    private static void lengths() {
        Check.sentence("a LENGTH (1 to 100)");
        SkiHill x = hill(2);
        for (int none : new int[] {0, 101, -1, -100, 256, LOWEST, HIGHEST}) {
            Check.number("length " + none, () -> x.link(0, 1, none));
        }
        Check.due("none came", x.count(5), 0);
        for (int length : new int[] {1, 2, 99, 100}) {
            SkiHill y = hill(2);
            Check.due("length " + length, y.link(0, 1, length), 1);
            y.snow(0, true, 3);
            y.want(1, 3);
            Check.due("least over " + length, y.least(), 3 * length);
        }
    }

    private static void bothWays() {
        Check.sentence("a LENGTH (1 to 100), both ways");
        for (int turned = 0; turned < 2; turned++) {
            SkiHill x = hill(3);
            x.link(turned, 1 - turned, 7);
            x.link(2, 1, 5);
            x.snow(0, true, 4);
            x.want(1, 4);
            Check.due("there", x.least(), 28);
            SkiHill y = hill(3);
            y.link(turned, 1 - turned, 7);
            y.link(1, 2, 5);
            y.snow(1, true, 4);
            y.want(0, 3);
            y.want(2, 1);
            Check.due("and back", y.least(), 26);
        }
    }

    private static void wantAtFirst() {
        Check.sentence("Each CELL has a WANT (0 at first)");
        SkiHill x = hill(40);
        for (int cell = 0; cell < 40; cell++) {
            Check.due("want of " + cell, x.cell(cell, 6), 0);
        }
        Check.due("none is missing", x.least(), 0);
        x.snow(5, true, 100);
        Check.due("too much alone costs nothing", x.least(), 0);
    }

    private static void wants() {
        Check.sentence("A CELL's WANT. IllegalArgumentException: not 0 to 1000000.");
        SkiHill x = hill(2);
        for (int hundredths : new int[] {1000000, 0, 1, 999999}) {
            x.want(1, hundredths);
            Check.due("want " + hundredths, x.cell(1, 6), hundredths);
            Check.due("of the other", x.cell(0, 6), 0);
        }
        for (int none : new int[] {-1, 1000001, LOWEST, HIGHEST}) {
            Check.number("want " + none, () -> want(x, 1, none));
            Check.due("as it was", x.cell(1, 6), 999999);
            Check.place("no such cell", () -> want(x, none, 1));
            Check.place("no such cell, no such number", () -> want(x, none, none));
        }
        Check.place("behind the last", () -> want(x, 2, 1));
    }

    private static long want(SkiHill x, int cell, int hundredths) {
        x.want(cell, hundredths);
        return 0;
    }

    private static void aboveAndMissing() {
        Check.sentence("what its DEPTH has above it may go, what is missing to it must come.");
        // DEPTH 10 against WANTS beside it, at the giver and at the taker.
        for (int want = 0; want <= 12; want++) {
            SkiHill x = hill(2);
            x.link(0, 1, 1);
            x.snow(0, false, 10);
            x.snow(1, false, 10);
            x.want(1, 12);
            x.want(0, want);
            Check.due("two are missing, " + (10 - want) + " may go", x.least(), want <= 8 ? 2 : SkiHill.NONE);
            SkiHill y = hill(2);
            y.link(0, 1, 1);
            y.snow(0, false, 100);
            y.snow(1, false, 10);
            y.want(1, want);
            Check.due("what is missing to " + want, y.least(), Math.max(0, want - 10));
        }
        // The DEPTH is of all KINDS.
        SkiHill z = new SkiHill();
        z.slope(0, 0, 1, 9, 1);
        z.slope(1, 1, 1, 0, 1);
        z.group(1, 9, 0);
        z.snow(0, true, 15);
        z.push(0);
        z.step(1);
        z.snow(0, true, 3);
        z.snow(0, false, 2);
        z.link(0, 1, 1);
        z.want(1, 20);
        Check.due("all twenty go", z.least(), 20);
        z.want(0, 1);
        Check.due("nineteen may", z.least(), SkiHill.NONE);
    }

    private static void justWhatIsMissing() {
        Check.sentence("so that each of these gets just what is missing");
        SkiHill x = hill(4);
        for (int k = 1; k < 4; k++) {
            x.link(0, k, 10 * k);
            x.want(k, k);
        }
        x.snow(0, true, 6);
        Check.due("each gets it", x.least(), 10 + 40 + 90);
        x.melt(0, 1);
        Check.due("not all get it", x.least(), SkiHill.NONE);
        x.want(3, 2);
        Check.due("each gets it", x.least(), 10 + 40 + 60);
        for (int k = 1; k < 4; k++) {
            x.want(k, 0);
        }
        Check.due("nothing is missing", x.least(), 0);
    }

    private static void noneGivesMore() {
        Check.sentence("none gives more than it has too much");
        SkiHill x = hill(3);
        x.link(0, 2, 1);
        x.link(1, 2, 50);
        x.snow(0, true, 4);
        x.snow(1, true, 100);
        x.want(2, 4);
        Check.due("all from the near one", x.least(), 4);
        x.want(2, 5);
        Check.due("one from the far one", x.least(), 54);
        x.want(0, 1);
        Check.due("two from the far one", x.least(), 103);
        x.want(0, 4);
        Check.due("all from the far one", x.least(), 250);
        x.want(0, 5);
        Check.due("one more, through the taker", x.least(), 250 + 51);
        x.want(1, 94);
        Check.due("just enough", x.least(), 250 + 51);
        x.want(1, 95);
        Check.due("one too few", x.least(), SkiHill.NONE);
    }

    private static void leastSum() {
        Check.sentence("the least sum of all that is carried over each LINK times its LENGTH");
        // What the first would take from its nearest must be left to the second.
        SkiHill x = hill(4);
        x.link(0, 2, 2);
        x.link(1, 2, 3);
        x.link(0, 3, 4);
        x.link(1, 3, 100);
        x.snow(0, true, 5);
        x.snow(1, true, 5);
        x.want(2, 5);
        x.want(3, 5);
        Check.due("crossed", x.least(), 15 + 20);
        x.snow(0, true, 2);
        Check.due("two of the nearest now", x.least(), 2 * 2 + 3 * 3 + 20);
        carriedAnew();
        // A ring: the one way round and the other.
        for (int way = 1; way <= 9; way++) {
            SkiHill y = hill(10);
            for (int k = 0; k < 10; k++) {
                y.link(k, (k + 1) % 10, 3);
            }
            y.snow(0, true, 2);
            y.want(way, 2);
            Check.due("round to " + way, y.least(), 6 * Math.min(way, 10 - way));
        }
        // Of two LINKS of the same CELLS the shorter.
        SkiHill z = hill(2);
        z.snow(0, true, 2);
        z.want(1, 2);
        z.link(0, 1, 9);
        z.link(1, 0, 8);
        z.link(0, 1, 10);
        Check.due("the shorter", z.least(), 16);
    }

    /** The cheapest way to the first taker must be given up for the second, in whole or in part. */
    private static void carriedAnew() {
        for (int wanted = 1; wanted <= 12; wanted++) {
            SkiHill x = hill(4);
            x.link(0, 2, 2);
            x.link(1, 2, 3);
            x.link(0, 3, 4);
            x.link(1, 3, 7);
            x.snow(0, true, 5);
            x.snow(1, true, 100);
            x.want(2, 5);
            x.want(3, wanted);
            // 0 gives first to 3, as that spares three, and what it has left to 2, as that spares one.
            int near = Math.min(5, wanted);
            Check.due("3 wants " + wanted, x.least(), 4 * near + 7 * (wanted - near) + 2 * (5 - near) + 3 * near);
        }
    }

    private static void noSuchWay() {
        Check.sentence("none if there is no such way.");
        SkiHill x = hill(40);
        x.want(39, 1);
        Check.due("nothing to carry", x.least(), SkiHill.NONE);
        x.snow(0, true, 100000);
        Check.due("no link", x.least(), SkiHill.NONE);
        for (int k = 0; k < 38; k++) {
            x.link(k, k + 1, 1);
        }
        Check.due("one link is not there", x.least(), SkiHill.NONE);
        x.link(38, 39, 1);
        Check.due("there is a way", x.least(), 39);
        x.want(39, 100000);
        Check.due("all goes", x.least(), 3900000);
        x.want(39, 100001);
        Check.due("one too few", x.least(), SkiHill.NONE);
        // Enough in all, but not where it can come from.
        SkiHill y = hill(4);
        y.link(0, 1, 1);
        y.link(2, 3, 1);
        y.snow(0, true, 10);
        y.snow(2, true, 1);
        y.want(1, 1);
        y.want(3, 2);
        Check.due("the other part has too little", y.least(), SkiHill.NONE);
        y.want(3, 1);
        Check.due("both parts have enough", y.least(), 2);
        y.link(1, 2, 1);
        y.want(3, 2);
        Check.due("joined", y.least(), 1 + 1 + 3);
    }

    private static void overOthers() {
        Check.sentence("(It may go over other CELLS. Nothing is carried by asking.)");
        SkiHill x = hill(5);
        x.link(0, 1, 3);
        x.link(1, 2, 4);
        x.link(2, 3, 5);
        x.snow(0, true, 10);
        x.want(3, 10);
        Check.due("over two that want nothing and have nothing", x.least(), 120);
        x.want(1, 7);
        x.snow(1, true, 7);
        Check.due("over one that has just what it wants", x.least(), 120);
        x.want(3, 9);
        x.want(2, 1);
        Check.due("over one that wants some", x.least(), 9 * 12 + 7);
        x.snow(2, true, 1);
        x.snow(2, true, 3);
        Check.due("over one that has too much", x.least(), 3 * 5 + 6 * 12);
        x.link(0, 3, 13);
        Check.due("not over a longer one", x.least(), 3 * 5 + 6 * 12);
        x.link(0, 3, 11);
        Check.due("but over a shorter one", x.least(), 3 * 5 + 6 * 11);
    }

    private static void nothingCarried() {
        Check.sentence("Nothing is carried by asking.");
        SkiHill x = hill(3);
        x.link(0, 1, 3);
        x.link(1, 2, 4);
        x.snow(0, true, 10);
        x.snow(1, false, 2);
        x.want(2, 5);
        x.price(2, 4);
        for (int times = 0; times < 3; times++) {
            Check.due("least", x.least(), 2 * 4 + 3 * 7);
            Check.due("judge", x.judge(), 20);
            int[] depths = {10, 2, 0};
            for (int cell = 0; cell < 3; cell++) {
                Check.due("depth", x.cell(cell, 4), depths[cell]);
                Check.due("want", x.cell(cell, 6), cell == 2 ? 5 : 0);
                Check.due("price", x.cell(cell, 7), cell == 2 ? 4 : 0);
            }
        }
        // An answer leaves nothing behind that the next would take up.
        x.want(2, 50);
        Check.due("no way", x.least(), SkiHill.NONE);
        x.want(2, 0);
        Check.due("nothing missing", x.least(), 0);
        x.want(2, 5);
        Check.due("as at first", x.least(), 29);
    }

    private static void greatSums() {
        Check.sentence("LEAST; NONE without one.");
        // 12 CELLS want the most; all goes over 39 LINKS less than two to the 63rd, but more than two to the 32nd.
        SkiHill x = hill(40);
        for (int k = 0; k < 39; k++) {
            x.link(k, k + 1, 100);
        }
        long due = 0;
        for (int k = 0; k < 12; k++) {
            x.want(k, 1000000);
            due += 1000000L * 100 * (39 - k);
        }
        for (int n = 0; n < 120; n++) {
            x.snow(39, n % 2 == 0, 100000);
        }
        Check.due("a great sum", x.least(), due);
        Check.due("it is great", due > 1L << 34, true);
        x.melt(39, 1);
        Check.due("one too few", x.least(), SkiHill.NONE);
        x.snow(38, true, 1);
        Check.due("one from nearer by", x.least(), due - 100);
    }

    private static void pricesAtFirst() {
        Check.sentence("PRICES, a number of each CELL (0 at first)");
        SkiHill x = hill(40);
        for (int cell = 0; cell < 40; cell++) {
            Check.due("price of " + cell, x.cell(cell, 7), 0);
            x.want(cell, cell % 2 * 10);
            x.snow(cell, true, 5);
        }
        x.link(0, 39, 1);
        Check.due("they are taken, and tell nothing", x.judge(), 0);
    }

    private static void pricesNumbers() {
        Check.sentence("A CELL's PRICE. IllegalArgumentException: not - 10000 to 10000.");
        SkiHill x = hill(2);
        for (int v : new int[] {10000, -10000, 0, 1, -1, 9999, -9999}) {
            x.price(1, v);
            Check.due("price " + v, x.cell(1, 7), v);
            Check.due("of the other", x.cell(0, 7), 0);
        }
        for (int none : new int[] {-10001, 10001, LOWEST, HIGHEST}) {
            Check.number("price " + none, () -> price(x, 1, none));
            Check.due("as it was", x.cell(1, 7), -9999);
            Check.place("no such cell", () -> price(x, none, 1));
            Check.place("no such cell, no such number", () -> price(x, none, none));
        }
        Check.place("behind the last", () -> price(x, 2, 1));
        Check.place("ahead of the first", () -> price(x, -1, 1));
    }

    private static long price(SkiHill x, int cell, int v) {
        x.price(cell, v);
        return 0;
    }

    private static void apart() {
        Check.sentence("they are taken, if those of any two CELLS with a LINK are apart by its LENGTH at most");
        for (int length : new int[] {1, 2, 50, 100}) {
            for (int turned = 0; turned < 2; turned++) {
                SkiHill x = hill(3);
                x.link(turned, 1 - turned, length);
                for (int base : new int[] {-10000, -length, -1, 0, 1, 9900}) {
                    x.price(0, base);
                    for (int far : new int[] {-length - 1, -length, -1, 0, 1, length, length + 1}) {
                        if (base + far < -10000 || base + far > 10000) {
                            continue;
                        }
                        x.price(1, base + far);
                        if (Math.abs(far) <= length) {
                            Check.due("apart " + far + " over " + length, x.judge(), 0);
                        } else {
                            Check.thrown("apart " + far + " over " + length, IllegalStateException.class, x::judge);
                        }
                    }
                }
            }
        }
        // Without a LINK they may be as far apart as can be; of several LINKS the shortest counts; no way over others does.
        SkiHill y = hill(3);
        y.price(0, -10000);
        y.price(1, 10000);
        Check.due("without a link", y.judge(), 0);
        y.link(0, 2, 100);
        y.price(2, -9900);
        Check.due("the others have one", y.judge(), 0);
        y.price(0, 10000);
        y.price(2, 9950);
        y.link(2, 0, 50);
        Check.due("two links", y.judge(), 0);
        y.price(2, 9949);
        Check.thrown("the shorter of two", IllegalStateException.class, y::judge);
        Check.sentence("What the PRICES tell. IllegalStateException: they are not taken.");
        SkiHill z = hill(40);
        for (int k = 0; k < 39; k++) {
            z.link(k, k + 1, 1);
        }
        for (int k = 0; k < 40; k++) {
            z.price(k, k);
        }
        Check.due("each by one", z.judge(), 0);
        z.price(39, 40);
        Check.thrown("the last is not taken", IllegalStateException.class, z::judge);
        z.price(39, 39);
        z.price(0, -1);
        Check.thrown("the first is not taken", IllegalStateException.class, z::judge);
        z.price(0, 0);
        Check.due("all are taken again", z.judge(), 0);
    }

    private static void priceAboveNothing() {
        Check.sentence("less the sum, of all that have too much and a PRICE above 0, of that times PRICE.");
        SkiHill x = hill(2);
        x.snow(0, true, 7);
        int[] prices = {-10000, -1, 0, 1, 2, 10000};
        int[] due = {0, 0, 0, -7, -14, -70000};
        for (int k = 0; k < prices.length; k++) {
            x.price(0, prices[k]);
            Check.due("too much at " + prices[k], x.judge(), due[k]);
        }
        x.want(0, 6);
        Check.due("one too much", x.judge(), -10000);
        x.want(0, 7);
        Check.due("none too much", x.judge(), 0);
    }

    private static void tell() {
        Check.sentence("they tell: the sum, of all CELLS where some is missing, of that times PRICE");
        SkiHill x = hill(2);
        x.want(0, 7);
        int[] prices = {-10000, -1, 0, 1, 10000};
        for (int price : prices) {
            x.price(0, price);
            Check.due("missing at " + price, x.judge(), 7L * price);
        }
        x.snow(0, true, 6);
        Check.due("one missing", x.judge(), 10000);
        x.snow(0, true, 1);
        Check.due("none missing", x.judge(), 0);
        x.snow(0, true, 1);
        Check.due("one too much", x.judge(), -10000);
        x.want(1, 3);
        x.price(1, -5);
        Check.due("both", x.judge(), -10015);
        x.snow(1, true, 4);
        Check.due("too much below 0 tells nothing", x.judge(), -10000);
    }

    private static void greatPrices() {
        Check.sentence("`long judge() throws IllegalStateException`: What the PRICES tell.");
        SkiHill x = hill(40);
        for (int cell = 0; cell < 40; cell++) {
            x.want(cell, 1000000);
            x.price(cell, 10000);
        }
        Check.due("the most", x.judge(), 400000000000L);
        for (int cell = 0; cell < 40; cell++) {
            x.price(cell, -10000);
        }
        Check.due("the least", x.judge(), -400000000000L);
        SkiHill y = hill(1);
        for (int k = 0; k < 400; k++) {
            y.snow(0, true, 100000);
        }
        y.price(0, 10000);
        Check.due("far too much", y.judge(), -400000000000L);
    }
}
