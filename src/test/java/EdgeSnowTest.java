import java.util.NoSuchElementException;

/** Promises 18 to 21 and 27: each sentence that names an edge has a test of its own. */
public final class EdgeSnowTest {
    private static final int LOWEST = Integer.MIN_VALUE;
    private static final int HIGHEST = Integer.MAX_VALUE;

    public static void main(String[] args) {
        comes();
        mostSnow();
        melts();
        meltsInOrder();
        asFarAsThereIs();
        allPushed();
        looks();
        anotherWhat();
        counts();
        eachHundredth();
        noCell();
        Check.close();
    }

    /** CELL 0 with as much of each KIND: FALLEN, MADE, PUSHED, WORN (a multiple of 10, up to 40). */
    private static SkiHill mixed(int fallen, int made, int pushed, int worn) {
        SkiHill x = new SkiHill();
        x.slope(0, 1, 1, 9, 1);
        x.slope(2, 3, 1, 0, 3);
        x.snow(0, true, pushed + worn);
        x.push(0);
        if (worn > 0) {
            x.group(worn / 10, 9, 0);
            x.step(1);
        }
        x.snow(0, false, fallen);
        x.snow(0, true, made);
        kinds(x, fallen, made, pushed, worn);
        return x;
    }

    private static void kinds(SkiHill x, int fallen, int made, int pushed, int worn) {
        int[] due = {fallen, made, pushed, worn, fallen + made + pushed + worn};
        for (int what = 0; what < due.length; what++) {
            Check.due("cell(0, " + what + ")", x.cell(0, what), due[what]);
        }
    }

    private static void comes() {
        Check.sentence("SNOW comes to a CELL, FALLEN or MADE: its DEPTH. IllegalArgumentException: not 0 to 100000.");
        for (int made = 0; made < 2; made++) {
            SkiHill x = new SkiHill();
            x.slope(0, 1, 1, 0, 2);
            boolean how = made == 1;
            int there = 0;
            for (int hundredths : new int[] {0, 1, 99999, 100000, 0, 100000}) {
                there += hundredths;
                Check.due("snow of " + hundredths, x.snow(0, how, hundredths), there);
                Check.due("of its kind", x.cell(0, made), there);
                Check.due("of the other kind", x.cell(0, 1 - made), 0);
                Check.due("of the other cell", x.cell(1, 4), 0);
            }
            for (int none : new int[] {-1, 100001, -100000, LOWEST, HIGHEST}) {
                Check.number("snow of " + none, () -> x.snow(0, how, none));
                Check.due("as it was", x.cell(0, 4), there);
            }
        }
        SkiHill y = mixed(1, 20, 300, 10);
        Check.due("the depth is of all kinds", y.snow(0, false, 0), 331);
    }

    private static void mostSnow() {
        Check.sentence("7 all SNOW that FELL, 8 that was MADE");
        SkiHill x = new SkiHill();
        x.slope(0, 1, 1, 0, 1);
        for (int k = 1; k <= 500; k++) {
            Check.due("all of it in one cell", x.snow(0, k % 2 == 0, 100000), 100000 * k);
        }
        Check.due("fell", x.count(7), 25000000);
        Check.due("was made", x.count(8), 25000000);
        Check.due("is there", x.count(10), 50000000);
    }

    private static void melts() {
        Check.sentence("how much. IllegalArgumentException: not 0 to 1000000.");
        SkiHill x = new SkiHill();
        x.slope(0, 1, 1, 0, 1);
        for (int k = 0; k < 30; k++) {
            x.snow(0, true, 100000);
        }
        Check.due("none", x.melt(0, 0), 0);
        Check.due("one", x.melt(0, 1), 1);
        Check.due("the most", x.melt(0, 1000000), 1000000);
        Check.due("one less", x.melt(0, 999999), 999999);
        Check.due("left", x.cell(0, 4), 1000000);
        for (int none : new int[] {-1, 1000001, LOWEST, HIGHEST}) {
            Check.number("melt of " + none, () -> x.melt(0, none));
            Check.due("as it was", x.cell(0, 4), 1000000);
            Check.due("melted", x.count(9), 2000000);
        }
        Check.due("all", x.melt(0, 1000000), 1000000);
        Check.due("nothing is left", x.melt(0, 1000000), 0);
    }

    private static void meltsInOrder() {
        Check.sentence("SNOW melts: of FALLEN first, then MADE, PUSHED, WORN");
        int[] has = {5, 6, 7, 10};
        for (int hundredths = 0; hundredths <= 30; hundredths++) {
            SkiHill x = mixed(has[0], has[1], has[2], has[3]);
            Check.due("melt(" + hundredths + ")", x.melt(0, hundredths), Math.min(28, hundredths));
            int left = hundredths;
            int[] due = has.clone();
            for (int kind = 0; kind < 4; kind++) {
                int part = Math.min(left, due[kind]);
                due[kind] -= part;
                left -= part;
            }
            kinds(x, due[0], due[1], due[2], due[3]);
        }
    }

    private static void asFarAsThereIs() {
        Check.sentence("as far as there is: how much");
        SkiHill x = mixed(0, 0, 0, 0);
        Check.due("of none", x.melt(0, 1), 0);
        Check.due("of none", x.count(9), 0);
        SkiHill y = mixed(0, 0, 0, 10);
        Check.due("of worn alone", y.melt(0, 11), 10);
        SkiHill z = mixed(0, 3, 0, 20);
        Check.due("over a kind of which there is none", z.melt(0, 4), 4);
        kinds(z, 0, 0, 0, 19);
        Check.due("melted", z.count(9), 4);
    }

    private static void allPushed() {
        Check.sentence("All SNOW of a CELL is PUSHED then: how much was of another KIND.");
        int[][] cases = {{0, 0, 0, 0}, {1, 0, 0, 0}, {0, 1, 0, 0}, {0, 0, 1, 0}, {0, 0, 0, 10}, {5, 6, 7, 20}};
        for (int[] has : cases) {
            SkiHill x = mixed(has[0], has[1], has[2], has[3]);
            Check.due("push", x.push(0), has[0] + has[1] + has[3]);
            kinds(x, 0, 0, has[0] + has[1] + has[2] + has[3], 0);
            Check.due("push again", x.push(0), 0);
            Check.due("worn by groups as before", x.count(11), has[3]);
        }
        for (int none : new int[] {-1, 4, 40, LOWEST, HIGHEST}) {
            SkiHill x = mixed(1, 0, 0, 0);
            Check.place("push(" + none + ")", () -> x.push(none));
            kinds(x, 1, 0, 0, 0);
        }
    }

    private static void looks() {
        Check.sentence("Of a CELL what 0 to 3 SNOW of that KIND, 4 DEPTH, 5 its SLOPE, 6 WANT, 7 PRICE.");
        SkiHill x = mixed(1, 2, 3, 10);
        x.want(3, 1000000);
        x.price(3, -10000);
        x.want(0, 8);
        x.price(0, 9);
        int[] first = {1, 2, 3, 10, 16, 0, 8, 9};
        int[] last = {0, 0, 0, 0, 0, 1, 1000000, -10000};
        for (int what = 0; what < 8; what++) {
            Check.due("cell(0, " + what + ")", x.cell(0, what), first[what]);
            Check.due("cell(3, " + what + ")", x.cell(3, what), last[what]);
        }
    }

    private static void anotherWhat() {
        Check.sentence("NoSuchElementException: another what.");
        SkiHill x = mixed(1, 2, 3, 10);
        for (int none : new int[] {-1, 8, 9, 256, LOWEST, HIGHEST}) {
            Check.thrown("cell(0, " + none + ")", NoSuchElementException.class, () -> x.cell(0, none));
            Check.place("cell(4, " + none + ")", () -> x.cell(4, none));
            Check.place("cell(-1, " + none + ")", () -> x.cell(-1, none));
        }
    }

    private static void counts() {
        Check.sentence("NONE for another what.");
        SkiHill x = mixed(1, 2, 3, 10);
        for (int none : new int[] {-1, 12, 13, 256, LOWEST, HIGHEST}) {
            Check.due("count(" + none + ")", x.count(none), SkiHill.NONE);
        }
        Check.sentence("0 LIFTS, 1 SLOPES, 2 CELLS, 3 GROUPS, 4 the MINUTE, 5 LINKS, 6 the WIND, 7 all SNOW that FELL");
        x.lift(0, 1, 1, 1, 0);
        x.lift(0, 1, 1, 1, 0);
        x.lift(0, 1, 1, 1, 0);
        x.link(0, 1, 1);
        x.link(0, 1, 1);
        x.wind(7);
        x.step(5);
        x.melt(0, 2);
        int[] due = {3, 2, 4, 1, 6, 2, 7, 1, 15, 2, 14, 10};
        for (int what = 0; what < due.length; what++) {
            Check.due("count(" + what + ")", x.count(what), due[what]);
        }
    }

    private static void eachHundredth() {
        Check.sentence("snow that falls, is made, worn, pushed and melts, each hundredth kept count of");
        SkiHill x = new SkiHill();
        x.slope(0, 0, 1, 9, 2);
        x.slope(1, 1, 1, 3, 3);
        x.group(4, 9, 0);
        x.group(3, 5, 1);
        for (int k = 0; k < 60; k++) {
            x.snow(k % 5, k % 3 == 0, k * 7 % 90);
            x.step(1);
            x.melt(k * 3 % 5, k * 11 % 60);
            if (k % 8 == 0) {
                x.push(k / 8 % 5);
            }
            if (k % 5 != 0) {
                continue;
            }
            int there = 0;
            for (int cell = 0; cell < 5; cell++) {
                there += x.cell(cell, 0) + x.cell(cell, 1) + x.cell(cell, 2) + x.cell(cell, 3);
            }
            Check.due("is there", x.count(10), there);
            Check.due("what came is there or melted", x.count(7) + x.count(8), there + x.count(9));
        }
    }

    private static void noCell() {
        Check.sentence("IndexOutOfBoundsException: there is no such PLACE, LIFT, SLOPE, CELL, GROUP.");
        SkiHill x = mixed(1, 2, 3, 10);
        for (int none : new int[] {-1, 4, 40, 256, LOWEST, HIGHEST}) {
            Check.place("snow", () -> x.snow(none, false, 0));
            Check.place("snow of too much", () -> x.snow(none, true, 100001));
            Check.place("melt", () -> x.melt(none, 0));
            Check.place("melt of too much", () -> x.melt(none, 1000001));
            Check.place("cell", () -> x.cell(none, 0));
        }
        Check.due("the last one", x.snow(3, false, 1), 1);
    }
}
