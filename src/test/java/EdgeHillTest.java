/** Section 1 and promises 1, 4, 5, 10 to 13: each sentence that names an edge has a test of its own. */
public final class EdgeHillTest {
    private static final int LOWEST = Integer.MIN_VALUE;
    private static final int HIGHEST = Integer.MAX_VALUE;

    public static void main(String[] args) {
        newHill();
        places();
        liftsAtMost();
        seats();
        liftMinutes();
        liftWind();
        notStoppedAtFirst();
        runs();
        slopesAtMost();
        slopeMinutes();
        steep();
        cellsOfSlope();
        nextNumbers();
        kindsAtFirst();
        depth();
        hour();
        windNumber();
        anotherState();
        groupsAtMost();
        sizes();
        skills();
        Check.close();
    }

    private static void newHill() {
        Check.sentence("A hill without anything; MINUTE 0, WIND 0.");
        SkiHill x = new SkiHill();
        for (int what = 0; what <= 11; what++) {
            Check.due("count(" + what + ")", x.count(what), 0);
        }
        for (int what = 0; what <= 3; what++) {
            Check.due("people(" + what + ")", x.people(what), 0);
        }
        for (int number : new int[] {0, -1, 1, LOWEST, HIGHEST}) {
            Check.place("runs", () -> x.runs(number) ? 1 : 0);
            Check.place("stop", () -> x.stop(number, true) ? 1 : 0);
            Check.place("row", () -> x.row(number, 0));
            Check.place("open", () -> x.open(number) ? 1 : 0);
            Check.place("unrule", () -> x.unrule(number) ? 1 : 0);
            Check.place("rule", () -> x.rule(number));
            Check.place("look", () -> x.look(number, 0));
            Check.place("cell", () -> x.cell(number, 0));
            Check.place("snow", () -> x.snow(number, true, 0));
            Check.place("melt", () -> x.melt(number, 0));
            Check.place("push", () -> x.push(number));
            Check.place("link", () -> x.link(number, 1 - number, 1));
        }
        Check.due("least of nothing", x.least(), 0);
        Check.due("judge of nothing", x.judge(), 0);
        Check.due("end of no tape", x.end(1), false);
        Check.due("step of nothing", x.step(600), 600);
        Check.due("another is new still", new SkiHill().count(4), 0);
    }

    private static void places() {
        Check.sentence("THE HILL has PLACES 0 to 9.");
        SkiHill x = new SkiHill();
        for (int place = 0; place <= 9; place++) {
            SkiHill y = new SkiHill();
            y.lift(place, 9 - place, 1, 1, 0);
            y.slope(9 - place, place, 1, 0, 1);
            y.group(1, 0, place);
            y.step(1);
            Check.due("rides from " + place, y.look(0, 0), 2);
            y.step(1);
            Check.due("goes down from " + (9 - place), y.look(0, 0), 3);
            y.unrule(0);
            y.stop(0, true);
            y.step(1);
            Check.due("comes back to " + place, y.look(0, 1), place);
        }
        for (int none : new int[] {-1, 10, 256, LOWEST, HIGHEST}) {
            Check.place("lift from " + none, () -> x.lift(none, 0, 1, 1, 0));
            Check.place("lift to " + none, () -> x.lift(0, none, 1, 1, 0));
            Check.place("slope from " + none, () -> x.slope(none, 0, 1, 0, 1));
            Check.place("slope to " + none, () -> x.slope(0, none, 1, 0, 1));
            Check.place("group at " + none, () -> x.group(1, 0, none));
        }
        Check.due("none came", x.count(0) + x.count(1) + x.count(2) + x.count(3), 0);
    }

    private static void liftsAtMost() {
        Check.sentence("LIFTS (at most 8, numbered from 0 on)");
        SkiHill x = new SkiHill();
        for (int k = 0; k < 8; k++) {
            Check.due("lift " + k, x.lift(9 - k, k, 1, 1, 0), k);
            Check.due("how many", x.count(0), k + 1);
        }
        Check.full("a ninth", () -> x.lift(0, 1, 1, 1, 0));
        Check.full("once more", () -> x.lift(0, 1, 20, 30, 200));
        Check.due("how many still", x.count(0), 8);
        Check.due("the last one", x.runs(7), true);
        Check.place("the ninth", () -> x.runs(8) ? 1 : 0);
    }

    private static void seats() {
        Check.sentence("SEATS (1 to 20) a minute");
        SkiHill x = new SkiHill();
        for (int none : new int[] {0, 21, -1, 257, LOWEST, HIGHEST}) {
            Check.number("seats " + none, () -> x.lift(0, 1, none, 1, 0));
        }
        for (int seats = 1; seats <= 20; seats++) {
            SkiHill y = new SkiHill();
            Check.due("seats " + seats, y.lift(0, 1, seats, 30, 0), 0);
            for (int k = 0; k < 45; k++) {
                y.group(1, 0, 0);
            }
            y.step(1);
            Check.due("ride of " + seats, y.people(2), seats);
            y.step(1);
            Check.due("ride of " + seats + " after two", y.people(2), 2 * seats);
        }
    }

    private static void liftMinutes() {
        Check.sentence("MINUTES (1 to 30)");
        SkiHill x = new SkiHill();
        for (int none : new int[] {0, 31, -1, LOWEST, HIGHEST}) {
            Check.number("minutes " + none, () -> x.lift(0, 1, 1, none, 0));
        }
        for (int minutes : new int[] {1, 2, 29, 30}) {
            SkiHill y = new SkiHill();
            y.lift(0, 1, 1, minutes, 0);
            y.group(1, 0, 0);
            y.step(1);
            Check.due("to go of " + minutes, y.look(0, 2), minutes);
            y.step(minutes - 1);
            Check.due("rides in its last minute", y.look(0, 0) * 100 + y.look(0, 2), 201);
            y.step(1);
            Check.due("is up", y.look(0, 0) * 100 + y.look(0, 1), 1);
        }
    }

    private static void liftWind() {
        Check.sentence("a WIND (0 to 200) up to which it may run");
        SkiHill x = new SkiHill();
        for (int none : new int[] {-1, 201, 300, LOWEST, HIGHEST}) {
            Check.number("wind " + none, () -> x.lift(0, 1, 1, 1, none));
        }
        for (int most : new int[] {0, 1, 199, 200}) {
            SkiHill y = new SkiHill();
            Check.due("up to " + most, y.lift(0, 1, 1, 1, most), 0);
            y.wind(most);
            Check.due("runs at " + most, y.runs(0), true);
            y.wind(most + 1);
            Check.due("runs at " + (most + 1), y.runs(0), false);
        }
    }

    private static void notStoppedAtFirst() {
        Check.sentence("STOPPED or not (at first not)");
        SkiHill x = new SkiHill();
        x.lift(0, 1, 1, 1, 0);
        Check.due("it runs", x.runs(0), true);
        Check.due("not stopped is no other state", x.stop(0, false), false);
        x.stop(0, true);
        x.lift(0, 1, 1, 1, 0);
        Check.due("a new one is not stopped", x.runs(1), true);
        Check.due("the other stays so", x.runs(0), false);
    }

    private static void runs() {
        Check.sentence("It RUNS, if it is not STOPPED and the WIND is not above that.");
        SkiHill x = new SkiHill();
        x.lift(0, 1, 1, 1, 40);
        for (int wind : new int[] {0, 39, 40, 41, 300}) {
            for (int stopped = 0; stopped < 2; stopped++) {
                x.wind(wind);
                x.stop(0, stopped == 1);
                Check.due("wind " + wind + ", stopped " + stopped, x.runs(0), stopped == 0 && wind <= 40);
            }
        }
    }

    private static void slopesAtMost() {
        Check.sentence("SLOPES (at most 10)");
        SkiHill x = new SkiHill();
        for (int k = 0; k < 10; k++) {
            Check.due("slope " + k, x.slope(k, 9 - k, 1, 0, 1), k);
            Check.due("how many", x.count(1), k + 1);
        }
        Check.full("an eleventh", () -> x.slope(0, 1, 1, 0, 1));
        Check.due("how many still", x.count(1), 10);
        Check.due("no cell came", x.count(2), 10);
        Check.due("the last one", x.open(9), true);
        Check.place("the eleventh", () -> x.open(10) ? 1 : 0);
    }

    private static void slopeMinutes() {
        Check.sentence("MINUTES (1 to 20)");
        SkiHill x = new SkiHill();
        for (int none : new int[] {0, 21, 30, -1, LOWEST, HIGHEST}) {
            Check.number("minutes " + none, () -> x.slope(0, 1, none, 0, 1));
        }
        for (int minutes : new int[] {1, 2, 19, 20}) {
            SkiHill y = new SkiHill();
            y.slope(0, 1, minutes, 0, 1);
            y.group(1, 0, 0);
            y.step(1);
            Check.due("to go of " + minutes, y.look(0, 2), minutes);
            y.step(minutes - 1);
            Check.due("on it in its last minute", y.look(0, 0) * 100 + y.look(0, 2), 301);
            y.step(1);
            Check.due("is down", y.look(0, 0) * 100 + y.look(0, 1), 1);
        }
    }

    private static void steep() {
        Check.sentence("STEEP (0 to 9)");
        SkiHill x = new SkiHill();
        for (int none : new int[] {-1, 10, LOWEST, HIGHEST}) {
            Check.number("steep " + none, () -> x.slope(0, 1, 1, none, 1));
        }
        for (int steep = 0; steep <= 9; steep++) {
            SkiHill y = new SkiHill();
            Check.due("steep " + steep, y.slope(0, 1, 9, steep, 1), 0);
            y.snow(0, false, 1000);
            y.group(1, steep, 0);
            y.step(1);
            Check.due("goes down steep " + steep, y.look(0, 0), 3);
            Check.due("wears it", y.cell(0, 3), 1 + steep);
        }
    }

    private static void cellsOfSlope() {
        Check.sentence("1 to 4 CELLS");
        SkiHill x = new SkiHill();
        for (int none : new int[] {0, 5, -1, LOWEST, HIGHEST}) {
            Check.number("cells " + none, () -> x.slope(0, 1, 1, 0, none));
        }
        Check.due("none came", x.count(1) * 100 + x.count(2), 0);
        for (int cells = 1; cells <= 4; cells++) {
            SkiHill y = new SkiHill();
            Check.due("cells " + cells, y.slope(0, 1, 1, 0, cells), 0);
            Check.due("as many came", y.count(2), cells);
            int behind = cells;
            Check.due("the last", y.cell(cells - 1, 5), 0);
            Check.place("behind it", () -> y.cell(behind, 5));
        }
    }

    private static void nextNumbers() {
        Check.sentence("which get the next numbers (CELLS at most 40)");
        SkiHill x = new SkiHill();
        int[] counts = {4, 1, 3, 2};
        int next = 0;
        for (int k = 0; k < counts.length; k++) {
            x.slope(0, 1, 1, 0, counts[k]);
            for (int n = 0; n < counts[k]; n++) {
                Check.due("slope of cell " + next, x.cell(next, 5), k);
                next++;
            }
            Check.due("how many", x.count(2), next);
        }
        Check.sentence("there are 10 (or would be more than 40 CELLS)");
        SkiHill y = new SkiHill();
        for (int k = 0; k < 10; k++) {
            Check.due("the greatest slopes", y.slope(0, 1, 1, 0, 4), k);
        }
        Check.due("forty", y.count(2), 40);
        for (int cells = 1; cells <= 4; cells++) {
            int more = cells;
            Check.full("more than forty", () -> y.slope(0, 1, 1, 0, more));
        }
        Check.due("the last of forty", y.snow(39, true, 7), 7);
        Check.place("no more", () -> y.snow(40, true, 7));
    }

    private static void kindsAtFirst() {
        Check.sentence("1 MADE, 2 PUSHED, 3 WORN (0 at first)");
        SkiHill x = new SkiHill();
        for (int k = 0; k < 10; k++) {
            x.slope(0, 1, 1, 0, 4);
        }
        for (int cell = 0; cell < 40; cell++) {
            for (int what = 0; what <= 4; what++) {
                Check.due("cell(" + cell + ", " + what + ")", x.cell(cell, what), 0);
            }
        }
        Check.due("melts of none", x.melt(39, 1000000), 0);
        Check.due("pushed of none", x.push(0), 0);
    }

    private static void depth() {
        Check.sentence("its DEPTH is their sum");
        SkiHill x = new SkiHill();
        x.slope(0, 0, 1, 9, 1);
        x.group(1, 9, 0);
        Check.due("of none", x.cell(0, 4), 0);
        x.snow(0, false, 1);
        Check.due("of fallen", x.cell(0, 4), 1);
        x.snow(0, true, 20);
        Check.due("and made", x.cell(0, 4), 21);
        x.push(0);
        Check.due("pushed", x.cell(0, 4), 21);
        x.step(1);
        x.snow(0, false, 300);
        x.snow(0, true, 4000);
        Check.due("four kinds", x.cell(0, 0) * 10 == 3000 && x.cell(0, 1) == 4000 && x.cell(0, 2) == 11 && x.cell(0, 3) == 10, true);
        Check.due("their sum", x.cell(0, 4), 4321);
    }

    private static void hour() {
        Check.sentence("the HOUR is the MINUTE by 60, rounded down.");
        SkiHill x = new SkiHill();
        x.slope(0, 1, 1, 0, 1);
        int[] minutes = {0, 1, 59, 60, 61, 119, 120, 599, 600, 659, 660, 1439, 1440};
        for (int minute : minutes) {
            x.step((int) Math.min(600, minute - x.count(4)));
            x.step((int) (minute - x.count(4)));
            Check.due("minute", x.count(4), minute);
            Check.rule(x, 0, "hour = " + minute / 60);
            Check.due("hour of minute " + minute, x.open(0), true);
            Check.rule(x, 0, "hour < " + (minute / 60 + 1) + " and not hour < " + minute / 60);
            Check.due("hour of minute " + minute, x.open(0), true);
        }
    }

    private static void windNumber() {
        Check.sentence("The WIND. IllegalArgumentException: not 0 to 300.");
        SkiHill x = new SkiHill();
        for (int v : new int[] {300, 0, 1, 299}) {
            x.wind(v);
            Check.due("wind " + v, x.count(6), v);
        }
        for (int none : new int[] {-1, 301, LOWEST, HIGHEST}) {
            Check.number("wind " + none, () -> {
                x.wind(none);
                return 0;
            });
            Check.due("as it was", x.count(6), 299);
        }
    }

    private static void anotherState() {
        Check.sentence("A LIFT is STOPPED, or not: whether that is another state than before.");
        SkiHill x = new SkiHill();
        x.lift(0, 1, 1, 1, 0);
        x.lift(0, 1, 1, 1, 0);
        boolean[] told = {false, true, true, false, false, true, false};
        boolean before = false;
        for (boolean on : told) {
            Check.due("from " + before + " to " + on, x.stop(0, on), before != on);
            Check.due("runs", x.runs(0), !on);
            Check.due("the other runs", x.runs(1), true);
            before = on;
        }
        // The WIND is no part of that state.
        x.wind(1);
        Check.due("does not run, yet is not stopped", x.stop(1, false), false);
        Check.due("is stopped", x.stop(1, true), true);
        for (int none : new int[] {-1, 2, LOWEST, HIGHEST}) {
            Check.place("stop(" + none + ")", () -> x.stop(none, false) ? 1 : 0);
        }
    }

    private static void groupsAtMost() {
        Check.sentence("GROUPS (at most 60, numbered from 0 on)");
        SkiHill x = new SkiHill();
        for (int k = 0; k < 60; k++) {
            Check.due("group " + k, x.group(4, 9, k % 10), k);
            Check.due("how many", x.count(3), k + 1);
        }
        Check.full("a sixty-first", () -> x.group(1, 0, 0));
        Check.due("how many still", x.count(3), 60);
        Check.due("nobody came", x.people(0), 240);
        Check.due("the last one", x.look(59, 1), 9);
        Check.place("the sixty-first", () -> x.look(60, 1));
    }

    private static void sizes() {
        Check.sentence("a SIZE (1 to 4)");
        SkiHill x = new SkiHill();
        for (int none : new int[] {0, 5, -1, LOWEST, HIGHEST}) {
            Check.number("size " + none, () -> x.group(none, 0, 0));
        }
        int sum = 0;
        for (int size = 1; size <= 4; size++) {
            Check.due("size " + size, x.group(size, 0, 0), size - 1);
            sum += size;
            Check.due("people", x.people(0), sum);
        }
    }

    private static void skills() {
        Check.sentence("a SKILL (0 to 9)");
        SkiHill x = new SkiHill();
        for (int none : new int[] {-1, 10, LOWEST, HIGHEST}) {
            Check.number("skill " + none, () -> x.group(1, none, 0));
        }
        for (int skill = 0; skill <= 9; skill++) {
            SkiHill y = new SkiHill();
            for (int steep = 9; steep >= 0; steep--) {
                y.slope(0, 1, 5, steep, 1);
            }
            Check.due("skill " + skill, y.group(1, skill, 0), 0);
            y.step(1);
            Check.due("goes down steep " + skill, y.look(0, 1), 9 - skill);
        }
    }
}
