/** Promises 1, 4, 5, 10, 11, 12, 13, 22 and what count() says of the numbers there are. */
public final class BuildTest {
    private static final int LOWEST = Integer.MIN_VALUE;
    private static final int HIGHEST = Integer.MAX_VALUE;

    public static void main(String[] args) {
        newObject();
        lifts();
        slopes();
        fewerCells();
        running();
        groups();
        links();
        Check.close();
    }

    private static void newObject() {
        SkiHill x = new SkiHill();
        for (int what = 0; what <= 11; what++) {
            Check.due("1: count(" + what + ")", x.count(what), 0);
        }
        Check.due("27: count(-1)", x.count(-1), SkiHill.NONE);
        Check.due("27: count(12)", x.count(12), SkiHill.NONE);
        Check.due("27: count(highest)", x.count(HIGHEST), SkiHill.NONE);
        Check.due("8: fault(0) ahead of any", x.fault(0), SkiHill.NONE);
        Check.due("8: fault(1) ahead of any", x.fault(1), 0);
        Check.due("8: fault(2)", x.fault(2), SkiHill.NONE);
        Check.due("8: fault(-1)", x.fault(-1), SkiHill.NONE);
        for (int what = 0; what < 4; what++) {
            Check.due("17: people(" + what + ")", x.people(what), 0);
        }
        Check.due("24: least", x.least(), 0);
        Check.due("26: judge", x.judge(), 0);
        Check.due("14: step(0)", x.step(0), 0);
        Check.place("9: open(0)", () -> x.open(0) ? 1 : 0);
        Check.place("10: runs(0)", () -> x.runs(0) ? 1 : 0);
        Check.place("15: look(0, 0)", () -> x.look(0, 0));
        Check.place("16: row(0, 0)", () -> x.row(0, 0));
        Check.place("21: cell(0, 0)", () -> x.cell(0, 0));
    }

    private static void lifts() {
        SkiHill x = new SkiHill();
        for (int bad : new int[] {-1, 10, LOWEST, HIGHEST}) {
            Check.place("4: lift from " + bad, () -> x.lift(bad, 0, 1, 1, 0));
            Check.place("4: lift to " + bad, () -> x.lift(0, bad, 1, 1, 0));
            Check.place("4: a wrong place ahead of a wrong number", () -> x.lift(0, bad, 0, 0, -1));
        }
        for (int bad : new int[] {0, 21, -1, LOWEST, HIGHEST}) {
            Check.number("4: seats " + bad, () -> x.lift(0, 1, bad, 1, 0));
        }
        for (int bad : new int[] {0, 31, -1, LOWEST, HIGHEST}) {
            Check.number("4: minutes " + bad, () -> x.lift(0, 1, 1, bad, 0));
        }
        for (int bad : new int[] {-1, 201, LOWEST, HIGHEST}) {
            Check.number("4: wind " + bad, () -> x.lift(0, 1, 1, 1, bad));
        }
        Check.due("4: none came", x.count(0), 0);
        Check.due("4: least numbers", x.lift(0, 0, 1, 1, 0), 0);
        Check.due("4: greatest numbers", x.lift(9, 9, 20, 30, 200), 1);
        for (int k = 2; k < 8; k++) {
            Check.due("4: lift " + k, x.lift(k, 9 - k, 2, 2, 2), k);
        }
        Check.full("4: a ninth", () -> x.lift(0, 1, 1, 1, 0));
        Check.number("4: a wrong number ahead of the ninth", () -> x.lift(0, 1, 21, 1, 0));
        Check.place("4: a wrong place ahead of the ninth", () -> x.lift(10, 1, 1, 1, 0));
        Check.due("27: eight lifts", x.count(0), 8);
    }

    private static void slopes() {
        SkiHill x = new SkiHill();
        for (int bad : new int[] {-1, 10, LOWEST, HIGHEST}) {
            Check.place("5: slope from " + bad, () -> x.slope(bad, 0, 1, 0, 1));
            Check.place("5: slope to " + bad, () -> x.slope(0, bad, 1, 0, 1));
            Check.place("5: a wrong place ahead of a wrong number", () -> x.slope(bad, 0, 0, -1, 0));
        }
        for (int bad : new int[] {0, 21, -1, LOWEST, HIGHEST}) {
            Check.number("5: minutes " + bad, () -> x.slope(0, 1, bad, 0, 1));
        }
        for (int bad : new int[] {-1, 10, LOWEST, HIGHEST}) {
            Check.number("5: steep " + bad, () -> x.slope(0, 1, 1, bad, 1));
        }
        for (int bad : new int[] {0, 5, -1, LOWEST, HIGHEST}) {
            Check.number("5: cells " + bad, () -> x.slope(0, 1, 1, 0, bad));
        }
        Check.due("5: none came", x.count(1) + x.count(2), 0);
        Check.due("5: least numbers", x.slope(0, 0, 1, 0, 1), 0);
        Check.due("5: greatest numbers", x.slope(9, 9, 20, 9, 4), 1);
        Check.due("27: five cells", x.count(2), 5);
        for (int k = 2; k < 10; k++) {
            Check.due("5: slope " + k, x.slope(k, 9 - k, 2, 2, 1 + k % 4), k);
        }
        int[] owners = {0, 1, 1, 1, 1, 2, 2, 2, 3, 3, 3, 3, 4, 5, 5, 6, 6, 6, 7, 7, 7, 7, 8, 9, 9};
        Check.due("27: the cells", x.count(2), owners.length);
        for (int k = 0; k < owners.length; k++) {
            Check.due("21: slope of cell " + k, x.cell(k, 5), owners[k]);
        }
        Check.full("5: an eleventh", () -> x.slope(0, 1, 1, 0, 1));
        Check.number("5: a wrong number ahead of the eleventh", () -> x.slope(0, 1, 1, 0, 5));
        Check.place("5: a wrong place ahead of the eleventh", () -> x.slope(0, -1, 1, 0, 1));
        Check.due("27: ten slopes", x.count(1), 10);
        Check.due("5: no cell came", x.count(2), owners.length);
    }

    private static void fewerCells() {
        SkiHill x = new SkiHill();
        for (int k = 0; k < 10; k++) {
            Check.due("5: slope of four", x.slope(0, 1, 1, 0, 4), k);
        }
        Check.due("27: forty cells", x.count(2), 40);
        Check.due("21: the last cell", x.cell(39, 5), 9);
        Check.place("21: the forty-first", () -> x.cell(40, 5));
    }

    private static void running() {
        SkiHill x = new SkiHill();
        x.lift(0, 1, 1, 1, 0);
        x.lift(0, 1, 1, 1, 200);
        Check.due("10: wind 0 up to 0", x.runs(0), true);
        for (int bad : new int[] {-1, 301, LOWEST, HIGHEST}) {
            Check.number("11: wind " + bad, () -> {
                x.wind(bad);
                return 0;
            });
        }
        Check.due("11: the wind is as it was", x.count(6), 0);
        x.wind(1);
        Check.due("27: the wind", x.count(6), 1);
        Check.due("10: wind 1 above 0", x.runs(0), false);
        Check.due("10: wind 1 below 200", x.runs(1), true);
        x.wind(200);
        Check.due("10: wind 200 up to 200", x.runs(1), true);
        x.wind(300);
        Check.due("27: the greatest wind", x.count(6), 300);
        Check.due("10: wind 300 above 200", x.runs(1), false);
        x.wind(0);
        Check.due("12: not stopped as before", x.stop(0, false), false);
        Check.due("12: stopped", x.stop(0, true), true);
        Check.due("12: stopped as before", x.stop(0, true), false);
        Check.due("10: a stopped lift", x.runs(0), false);
        Check.due("10: the other", x.runs(1), true);
        Check.due("12: not stopped any more", x.stop(0, false), true);
        Check.due("10: it runs again", x.runs(0), true);
        for (int bad : new int[] {-1, 2, LOWEST, HIGHEST}) {
            Check.place("10: runs(" + bad + ")", () -> x.runs(bad) ? 1 : 0);
            Check.place("12: stop(" + bad + ")", () -> x.stop(bad, true) ? 1 : 0);
        }
    }

    private static void groups() {
        SkiHill x = new SkiHill();
        for (int bad : new int[] {-1, 10, LOWEST, HIGHEST}) {
            Check.place("13: place " + bad, () -> x.group(1, 0, bad));
            Check.place("13: a wrong place ahead of a wrong number", () -> x.group(0, -1, bad));
            Check.number("13: skill " + bad, () -> x.group(1, bad, 0));
        }
        for (int bad : new int[] {0, 5, -1, LOWEST, HIGHEST}) {
            Check.number("13: size " + bad, () -> x.group(bad, 0, 0));
        }
        Check.due("13: none came", x.count(3), 0);
        for (int k = 0; k < 60; k++) {
            Check.due("13: group " + k, x.group(1 + k % 4, k % 10, (k + 3) % 10), k);
            Check.due("15: free", x.look(k, 0), 0);
            Check.due("15: its place", x.look(k, 1), (k + 3) % 10);
            Check.due("15: nothing to go", x.look(k, 2), 0);
            Check.due("15: no ride", x.look(k, 3), 0);
            Check.due("15: not down", x.look(k, 4), 0);
        }
        Check.full("13: a sixty-first", () -> x.group(1, 0, 0));
        Check.number("13: a wrong number ahead of it", () -> x.group(5, 0, 0));
        Check.place("13: a wrong place ahead of it", () -> x.group(1, 0, 10));
        Check.due("27: sixty groups", x.count(3), 60);
        Check.due("17: people", x.people(0), 150);
    }

    private static void links() {
        SkiHill x = new SkiHill();
        x.slope(0, 1, 1, 0, 3);
        for (int bad : new int[] {-1, 3, LOWEST, HIGHEST}) {
            Check.place("22: link of " + bad, () -> x.link(bad, 0, 1));
            Check.place("22: link to " + bad, () -> x.link(0, bad, 1));
            Check.place("22: no cell ahead of one cell", () -> x.link(bad, bad, 0));
        }
        for (int bad : new int[] {0, 101, -1, LOWEST, HIGHEST}) {
            Check.number("22: length " + bad, () -> x.link(0, 1, bad));
        }
        Check.number("22: one cell", () -> x.link(2, 2, 5));
        Check.due("22: none came", x.count(5), 0);
        for (int k = 1; k <= 80; k++) {
            Check.due("22: link " + k, x.link(k % 3, (k + 1) % 3, k == 80 ? 100 : k), k);
        }
        Check.full("22: an eighty-first", () -> x.link(0, 1, 1));
        Check.number("22: one cell ahead of it", () -> x.link(0, 0, 1));
        Check.number("22: a wrong length ahead of it", () -> x.link(0, 1, 0));
        Check.place("22: no cell ahead of it", () -> x.link(0, 3, 1));
        Check.due("27: eighty links", x.count(5), 80);
    }
}
