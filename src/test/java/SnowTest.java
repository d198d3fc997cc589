import java.util.NoSuchElementException;

/** Promises 18 to 21 and what count() keeps of the SNOW. */
public final class SnowTest {
    public static void main(String[] args) {
        comes();
        melts();
        pushed();
        looks();
        counted();
        Check.close();
    }

    private static SkiHill hill() {
        SkiHill x = new SkiHill();
        x.slope(0, 1, 1, 4, 2);
        x.slope(0, 0, 1, 9, 1);
        return x;
    }

    private static void kinds(SkiHill x, int cell, int fallen, int made, int pushed, int worn) {
        int[] due = {fallen, made, pushed, worn, fallen + made + pushed + worn};
        for (int what = 0; what < due.length; what++) {
            Check.due("21: cell(" + cell + ", " + what + ")", x.cell(cell, what), due[what]);
        }
    }

    private static void comes() {
        SkiHill x = hill();
        for (int bad : new int[] {-1, 3, Integer.MIN_VALUE, Integer.MAX_VALUE}) {
            Check.place("18: snow(" + bad + ")", () -> x.snow(bad, true, 1));
            Check.place("18: no cell ahead of a wrong number", () -> x.snow(bad, true, -1));
        }
        for (int bad : new int[] {-1, 100001, Integer.MIN_VALUE, Integer.MAX_VALUE}) {
            Check.number("18: made " + bad, () -> x.snow(0, true, bad));
            Check.number("18: fallen " + bad, () -> x.snow(0, false, bad));
        }
        kinds(x, 0, 0, 0, 0, 0);
        Check.due("18: nothing", x.snow(0, true, 0), 0);
        Check.due("18: the most", x.snow(0, true, 100000), 100000);
        Check.due("18: the most again", x.snow(0, false, 100000), 200000);
        Check.due("18: one more", x.snow(0, false, 1), 200001);
        kinds(x, 0, 100001, 100000, 0, 0);
        kinds(x, 1, 0, 0, 0, 0);
        Check.due("27: fell", x.count(7), 100001);
        Check.due("27: was made", x.count(8), 100000);
    }

    /** A CELL with 50 FALLEN, 30 MADE, 7 PUSHED, 20 WORN. */
    private static SkiHill mixed() {
        SkiHill x = hill();
        x.snow(2, true, 27);
        x.push(2);
        x.group(2, 9, 0);
        x.step(1);
        x.snow(2, false, 50);
        x.snow(2, true, 30);
        kinds(x, 2, 50, 30, 7, 20);
        return x;
    }

    private static void melts() {
        SkiHill x = mixed();
        for (int bad : new int[] {-1, 3, Integer.MIN_VALUE, Integer.MAX_VALUE}) {
            Check.place("19: melt(" + bad + ")", () -> x.melt(bad, 1));
            Check.place("19: no cell ahead of a wrong number", () -> x.melt(bad, -1));
        }
        for (int bad : new int[] {-1, 1000001, Integer.MIN_VALUE, Integer.MAX_VALUE}) {
            Check.number("19: melt " + bad, () -> x.melt(2, bad));
        }
        Check.due("19: nothing", x.melt(2, 0), 0);
        kinds(x, 2, 50, 30, 7, 20);
        Check.due("19: of fallen", x.melt(2, 49), 49);
        kinds(x, 2, 1, 30, 7, 20);
        Check.due("19: then made", x.melt(2, 11), 11);
        kinds(x, 2, 0, 20, 7, 20);
        Check.due("19: then pushed", x.melt(2, 22), 22);
        kinds(x, 2, 0, 0, 5, 20);
        Check.due("19: then worn", x.melt(2, 6), 6);
        kinds(x, 2, 0, 0, 0, 19);
        Check.due("19: as far as there is", x.melt(2, 1000000), 19);
        kinds(x, 2, 0, 0, 0, 0);
        Check.due("19: nothing there", x.melt(2, 5), 0);
        Check.due("27: melted", x.count(9), 107);
        SkiHill y = mixed();
        Check.due("19: all at once", y.melt(2, 106), 106);
        kinds(y, 2, 0, 0, 0, 1);
    }

    private static void pushed() {
        SkiHill x = mixed();
        for (int bad : new int[] {-1, 3, Integer.MIN_VALUE, Integer.MAX_VALUE}) {
            Check.place("20: push(" + bad + ")", () -> x.push(bad));
        }
        Check.due("20: of another kind", x.push(2), 100);
        kinds(x, 2, 0, 0, 107, 0);
        Check.due("20: pushed again", x.push(2), 0);
        kinds(x, 2, 0, 0, 107, 0);
        Check.due("20: an empty cell", x.push(0), 0);
        Check.due("27: pushing counts for nothing", x.count(10), 107);
        Check.due("27: what was worn stays told", x.count(11), 20);
    }

    private static void looks() {
        SkiHill x = hill();
        x.want(1, 77);
        x.price(1, -88);
        int[] due = {0, 0, 0, 0, 0, 0, 77, -88};
        for (int what = 0; what < due.length; what++) {
            Check.due("21: cell(1, " + what + ")", x.cell(1, what), due[what]);
        }
        Check.due("21: slope", x.cell(2, 5), 1);
        Check.due("21: want", x.cell(2, 6), 0);
        Check.due("21: price", x.cell(2, 7), 0);
        for (int bad : new int[] {-1, 8, Integer.MIN_VALUE, Integer.MAX_VALUE}) {
            Check.thrown("21: cell(1, " + bad + ")", NoSuchElementException.class, () -> x.cell(1, bad));
            Check.place("21: cell(3, " + bad + ")", () -> x.cell(3, bad));
        }
        Check.place("21: cell(-1, 0)", () -> x.cell(-1, 0));
    }

    private static void counted() {
        SkiHill x = hill();
        for (int k = 0; k < 200; k++) {
            x.snow(k % 3, k % 2 == 0, 100000);
        }
        Check.due("27: fell", x.count(7), 10000000L);
        Check.due("27: was made", x.count(8), 10000000L);
        Check.due("27: is there", x.count(10), 20000000L);
        Check.due("19: the most melts", x.melt(0, 1000000), 1000000);
        Check.due("27: melted", x.count(9), 1000000);
        Check.due("27: is there", x.count(10), 19000000L);
        Check.number("18: wrong", () -> x.snow(0, false, 100001));
        Check.number("19: wrong", () -> x.melt(0, 1000001));
        Check.due("27: fell + made = melted + there", x.count(7) + x.count(8), x.count(9) + x.count(10));
    }
}
