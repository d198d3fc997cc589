import java.util.NoSuchElementException;

/** Promises 14 to 17: a minute, step by step. */
public final class DayTest {
    public static void main(String[] args) {
        wrongCalls();
        liftTakesItsTime();
        slopeTakesItsTime();
        steepestThatItCan();
        fewestPeople();
        rowInOrder();
        seatsAreForAMinute();
        stoppedLift();
        windStopsLift();
        nowForAllOfTheMinute();
        skillAndPlace();
        wearing();
        wearingByKinds();
        someFree();
        onwards();
        Check.close();
    }

    private static void group(SkiHill x, int group, int state, int where, int toGo, int rides, int descents) {
        int[] due = {state, where, toGo, rides, descents};
        for (int what = 0; what < due.length; what++) {
            Check.due("15: minute " + x.count(4) + ", look(" + group + ", " + what + ")", x.look(group, what), due[what]);
        }
    }

    private static void people(SkiHill x, int free, int wait, int ride, int down) {
        int[] due = {free, wait, ride, down};
        for (int what = 0; what < due.length; what++) {
            Check.due("17: minute " + x.count(4) + ", people(" + what + ")", x.people(what), due[what]);
        }
    }

    private static void wrongCalls() {
        SkiHill x = new SkiHill();
        x.lift(0, 1, 1, 1, 0);
        x.group(1, 0, 0);
        for (int bad : new int[] {-1, 601, Integer.MIN_VALUE, Integer.MAX_VALUE}) {
            Check.number("14: step(" + bad + ")", () -> x.step(bad));
            Check.place("15: look(" + bad + ", 0)", () -> x.look(bad, 0));
            Check.place("15: look(" + bad + ", 9)", () -> x.look(bad, 9));
            Check.place("16: row(" + bad + ", 0)", () -> x.row(bad, 0));
            Check.due("16: row(0, " + bad + ")", x.row(0, bad), SkiHill.NONE);
            Check.due("17: people(" + bad + ")", x.people(bad), SkiHill.NONE);
        }
        Check.due("17: people(4)", x.people(4), SkiHill.NONE);
        Check.thrown("15: look(0, 5)", NoSuchElementException.class, () -> x.look(0, 5));
        Check.thrown("15: look(0, -1)", NoSuchElementException.class, () -> x.look(0, -1));
        Check.place("15: look(1, 0)", () -> x.look(1, 0));
        Check.place("16: row(1, 0)", () -> x.row(1, 0));
        Check.due("27: no minute went by", x.count(4), 0);
        group(x, 0, 0, 0, 0, 0, 0);
        Check.due("14: step(0)", x.step(0), 0);
        group(x, 0, 0, 0, 0, 0, 0);
        Check.due("14: step(600)", x.step(600), 600);
        Check.due("14: step(1)", x.step(1), 601);
        Check.due("27: the minute", x.count(4), 601);
    }

    private static void liftTakesItsTime() {
        SkiHill x = new SkiHill();
        x.lift(2, 3, 4, 1, 0);
        x.lift(3, 7, 4, 30, 0);
        x.group(2, 0, 2);
        people(x, 2, 0, 0, 0);
        Check.due("14: step", x.step(1), 1);
        group(x, 0, 2, 0, 1, 1, 0);
        people(x, 0, 0, 2, 0);
        x.step(1);
        // It came to place 3 and rides on at once.
        group(x, 0, 2, 1, 30, 2, 0);
        x.step(29);
        group(x, 0, 2, 1, 1, 2, 0);
        x.step(1);
        group(x, 0, 0, 7, 0, 2, 0);
        x.step(1);
        group(x, 0, 0, 7, 0, 2, 0);
        people(x, 2, 0, 0, 0);
    }

    private static void slopeTakesItsTime() {
        SkiHill x = new SkiHill();
        x.slope(4, 5, 20, 9, 1);
        x.slope(5, 6, 1, 0, 1);
        x.group(3, 9, 4);
        x.step(1);
        group(x, 0, 3, 0, 20, 0, 1);
        people(x, 0, 0, 0, 3);
        x.step(19);
        group(x, 0, 3, 0, 1, 0, 1);
        x.step(1);
        group(x, 0, 3, 1, 1, 0, 2);
        x.step(1);
        group(x, 0, 0, 6, 0, 0, 2);
    }

    private static void steepestThatItCan() {
        SkiHill x = new SkiHill();
        x.lift(0, 1, 4, 1, 0);
        x.slope(0, 2, 5, 1, 1);
        x.slope(0, 2, 5, 4, 1);
        x.slope(0, 2, 5, 4, 1);
        x.slope(0, 2, 5, 7, 1);
        x.slope(3, 2, 5, 3, 1);
        int[] best = {SkiHill.NONE, 0, 0, 0, 1, 1, 1, 3, 3, 3};
        for (int skill = 0; skill < 10; skill++) {
            x.group(1, skill, 0);
        }
        x.step(1);
        for (int skill = 0; skill < 10; skill++) {
            if (best[skill] == SkiHill.NONE) {
                group(x, skill, 2, 0, 1, 1, 0);
            } else {
                group(x, skill, 3, best[skill], 5, 0, 1);
            }
        }
        closedSlopes();
    }

    private static void closedSlopes() {
        SkiHill x = new SkiHill();
        x.slope(0, 2, 5, 1, 1);
        x.slope(0, 2, 5, 4, 1);
        x.slope(0, 2, 5, 4, 1);
        Check.rule(x, 1, "wind > 10");
        x.group(1, 9, 0);
        x.group(1, 3, 0);
        x.step(1);
        group(x, 0, 3, 2, 5, 0, 1);
        group(x, 1, 3, 0, 5, 0, 1);
        Check.rule(x, 0, "open 1");
        Check.rule(x, 2, "open 0");
        x.group(1, 9, 0);
        x.step(1);
        group(x, 2, 0, 0, 0, 0, 0);
        x.wind(11);
        x.step(1);
        group(x, 2, 3, 1, 5, 0, 1);
        // A closed slope lets those that are on it go on.
        x.wind(0);
        x.step(2);
        group(x, 0, 3, 2, 1, 0, 1);
        x.step(1);
        group(x, 0, 0, 2, 0, 0, 1);
    }

    private static void fewestPeople() {
        SkiHill x = new SkiHill();
        x.lift(0, 1, 1, 1, 0);
        x.lift(0, 1, 1, 1, 0);
        x.lift(0, 1, 1, 1, 0);
        x.lift(1, 1, 1, 1, 0);
        int[] sizes = {3, 2, 2, 4, 2, 2, 3, 2};
        // people: 3 | 3 2 | 3 2 2 | 3 6 2 | 3 6 4 | 5 6 4 | 5 6 7 | 7 6 7
        int[] lifts = {0, 1, 2, 1, 2, 0, 2, 0};
        for (int size : sizes) {
            x.group(size, 0, 0);
        }
        x.step(1);
        for (int k = 0; k < sizes.length; k++) {
            group(x, k, 1, lifts[k], 0, 0, 0);
        }
        people(x, 0, 20, 0, 0);
        int[][] rows = {{0, 5, 7}, {1, 3}, {2, 4, 6}, {}};
        for (int lift = 0; lift < rows.length; lift++) {
            for (int k = 0; k < rows[lift].length; k++) {
                Check.due("16: row(" + lift + ", " + k + ")", x.row(lift, k), rows[lift][k]);
            }
            Check.due("16: behind the row of " + lift, x.row(lift, rows[lift].length), SkiHill.NONE);
            Check.due("16: ahead of it", x.row(lift, -1), SkiHill.NONE);
        }
        x.stop(1, true);
        x.group(1, 0, 0);
        x.step(1);
        group(x, 8, 1, 0, 0, 0, 0);
        fewestIsCountedDown();
    }

    private static void fewestIsCountedDown() {
        SkiHill x = new SkiHill();
        x.lift(0, 1, 4, 10, 0);
        x.lift(0, 1, 1, 10, 0);
        x.group(4, 0, 0);
        x.group(2, 0, 0);
        x.step(1);
        // The four of group 0 ride: nobody waits at lift 0 any more.
        group(x, 0, 2, 0, 10, 1, 0);
        group(x, 1, 1, 1, 0, 0, 0);
        x.group(1, 0, 0);
        x.step(1);
        group(x, 2, 2, 0, 10, 1, 0);
    }

    private static void rowInOrder() {
        SkiHill x = new SkiHill();
        x.lift(0, 1, 5, 10, 0);
        x.group(2, 0, 0);
        x.group(4, 0, 0);
        x.group(3, 0, 0);
        x.group(1, 0, 0);
        x.step(1);
        // 2 ride, 4 do not fit any more, and nobody goes past them.
        group(x, 0, 2, 0, 10, 1, 0);
        group(x, 1, 1, 0, 0, 0, 0);
        group(x, 2, 1, 0, 0, 0, 0);
        group(x, 3, 1, 0, 0, 0, 0);
        Check.due("16: front", x.row(0, 0), 1);
        Check.due("16: next", x.row(0, 1), 2);
        Check.due("16: last", x.row(0, 2), 3);
        Check.due("16: none", x.row(0, 3), SkiHill.NONE);
        x.group(1, 0, 0);
        x.step(1);
        group(x, 1, 2, 0, 10, 1, 0);
        group(x, 2, 1, 0, 0, 0, 0);
        Check.due("16: the new one is last", x.row(0, 2), 4);
        x.step(1);
        // 3 and 1 and 1 fill the five seats to the last.
        people(x, 0, 0, 11, 0);
        group(x, 4, 2, 0, 10, 1, 0);
        Check.due("16: the row is empty", x.row(0, 0), SkiHill.NONE);
    }

    private static void seatsAreForAMinute() {
        SkiHill x = new SkiHill();
        x.lift(0, 1, 3, 30, 0);
        x.group(4, 0, 0);
        x.group(1, 0, 0);
        x.step(600);
        // Four never fit on three seats, and the one behind waits for ever.
        group(x, 0, 1, 0, 0, 0, 0);
        group(x, 1, 1, 0, 0, 0, 0);
        SkiHill y = new SkiHill();
        y.lift(0, 1, 20, 30, 0);
        for (int k = 0; k < 60; k++) {
            y.group(4, 0, 0);
        }
        for (int minute = 1; minute <= 12; minute++) {
            y.step(1);
            people(y, 0, 240 - 20 * minute, 20 * minute, 0);
        }
        group(y, 0, 2, 0, 19, 1, 0);
        group(y, 59, 2, 0, 30, 1, 0);
    }

    private static void stoppedLift() {
        SkiHill x = new SkiHill();
        x.lift(0, 1, 2, 4, 10);
        x.group(2, 0, 0);
        x.group(2, 0, 0);
        x.step(1);
        x.stop(0, true);
        x.group(1, 0, 0);
        x.step(2);
        // Who rides rides on, who waits waits, who is free stays free.
        group(x, 0, 2, 0, 2, 1, 0);
        group(x, 1, 1, 0, 0, 0, 0);
        group(x, 2, 0, 0, 0, 0, 0);
        Check.due("16: the row stays", x.row(0, 0), 1);
        x.step(2);
        group(x, 0, 0, 1, 0, 1, 0);
        x.stop(0, false);
        x.step(1);
        group(x, 1, 2, 0, 4, 1, 0);
        group(x, 2, 1, 0, 0, 0, 0);
    }

    private static void windStopsLift() {
        SkiHill x = new SkiHill();
        x.lift(0, 1, 2, 4, 10);
        x.lift(0, 1, 2, 4, 11);
        x.group(2, 0, 0);
        x.wind(11);
        x.step(1);
        group(x, 0, 2, 1, 4, 1, 0);
        x.wind(12);
        x.group(2, 0, 0);
        x.step(1);
        group(x, 1, 0, 0, 0, 0, 0);
        group(x, 0, 2, 1, 3, 1, 0);
        x.wind(10);
        x.step(1);
        group(x, 1, 2, 0, 4, 1, 0);
    }

    private static void nowForAllOfTheMinute() {
        SkiHill x = new SkiHill();
        x.slope(0, 1, 5, 9, 1);
        x.snow(0, false, 120);
        Check.rule(x, 0, "worn < 1");
        for (int k = 0; k < 4; k++) {
            x.group(4, 9, 0);
        }
        x.step(1);
        // The third makes it 120 worn, yet the fourth goes down in the same minute.
        Check.due("21: worn", x.cell(0, 3), 120);
        people(x, 0, 0, 0, 16);
        Check.due("9: closed now", x.open(0), false);
        x.group(4, 9, 0);
        x.step(1);
        group(x, 4, 0, 0, 0, 0, 0);
        // An hour begins behind the minute: minute 59 is of hour 0.
        SkiHill y = new SkiHill();
        y.slope(0, 1, 5, 0, 1);
        Check.rule(y, 0, "hour = 1");
        y.group(1, 0, 0);
        y.step(60);
        group(y, 0, 0, 0, 0, 0, 0);
        y.step(1);
        group(y, 0, 3, 0, 5, 0, 1);
        // In a step of many minutes each is judged anew.
        SkiHill z = new SkiHill();
        z.slope(0, 1, 5, 0, 1);
        Check.rule(z, 0, "hour = 1");
        z.group(1, 0, 0);
        z.step(63);
        group(z, 0, 3, 0, 3, 0, 1);
    }

    private static void skillAndPlace() {
        SkiHill x = new SkiHill();
        x.slope(1, 2, 5, 0, 1);
        x.lift(3, 4, 1, 1, 0);
        x.group(1, 9, 0);
        x.group(1, 9, 2);
        x.group(1, 9, 4);
        x.step(5);
        group(x, 0, 0, 0, 0, 0, 0);
        group(x, 1, 0, 2, 0, 0, 0);
        group(x, 2, 0, 4, 0, 0, 0);
        // A slope goes ahead of a lift; numbers go ahead of arrival.
        SkiHill y = new SkiHill();
        y.lift(0, 1, 20, 1, 0);
        y.slope(0, 1, 1, 3, 1);
        y.group(1, 3, 0);
        y.group(1, 2, 0);
        y.step(1);
        group(y, 0, 3, 0, 1, 0, 1);
        group(y, 1, 2, 0, 1, 1, 0);
    }

    private static void wearing() {
        SkiHill x = new SkiHill();
        x.slope(0, 0, 2, 0, 4);
        x.slope(1, 1, 1, 9, 2);
        for (int k = 0; k < 6; k++) {
            x.snow(k, false, 100);
        }
        x.group(1, 0, 0);
        x.group(4, 9, 1);
        x.step(1);
        for (int k = 0; k < 4; k++) {
            Check.due("14: size 1, steep 0", x.cell(k, 3), 1);
            Check.due("14: fallen", x.cell(k, 0), 99);
        }
        Check.due("14: size 4, steep 9", x.cell(4, 3), 40);
        Check.due("14: in each cell", x.cell(5, 3), 40);
        Check.due("27: worn by groups", x.count(11), 84);
        x.step(1);
        // Group 0 is on its way still; group 1 begins anew.
        Check.due("14: worn once a descent", x.cell(0, 3), 1);
        Check.due("14: worn twice", x.cell(4, 3), 80);
        x.step(1);
        Check.due("14: worn again", x.cell(0, 3), 2);
        Check.due("14: as far as there is", x.cell(4, 3), 100);
        Check.due("14: nothing fallen any more", x.cell(4, 0), 0);
        Check.due("27: worn by groups", x.count(11), 4 + 80 + 80 + 4 + 40);
        x.step(4);
        Check.due("27: no more to wear", x.count(11), 4 + 80 + 80 + 4 + 40 + 8);
        Check.due("27: all the snow", x.count(10), 600);
        Check.due("15: descents", x.look(1, 4), 7);
    }

    private static void wearingByKinds() {
        SkiHill x = new SkiHill();
        x.slope(0, 0, 1, 9, 1);
        x.snow(0, true, 15);
        x.push(0);
        x.snow(0, false, 50);
        x.snow(0, true, 30);
        x.group(1, 9, 0);
        int[][] due = {{50, 30, 5, 10}, {50, 25, 0, 20}, {50, 15, 0, 30}, {50, 5, 0, 40}, {45, 0, 0, 50}, {35, 0, 0, 60}};
        for (int[] row : due) {
            x.step(1);
            for (int kind = 0; kind < 4; kind++) {
                Check.due("14: minute " + x.count(4) + " kind " + kind, x.cell(0, kind), row[kind]);
            }
        }
        x.step(4);
        Check.due("14: all is worn", x.cell(0, 3), 95);
        Check.due("27: worn", x.count(11), 95);
        x.push(0);
        x.step(1);
        Check.due("14: pushed snow is worn anew", x.cell(0, 3), 10);
        Check.due("27: worn anew", x.count(11), 105);
    }

    private static void someFree() {
        SkiHill x = new SkiHill();
        x.slope(0, 1, 20, 0, 1);
        x.slope(2, 1, 20, 0, 1);
        Check.rule(x, 0, "wind = 1");
        x.group(1, 0, 0);
        x.group(1, 0, 2);
        x.step(1);
        group(x, 0, 0, 0, 0, 0, 0);
        group(x, 1, 3, 1, 20, 0, 1);
        x.wind(1);
        x.step(1);
        // Group 0 goes down though the last one of all is on its way.
        group(x, 0, 3, 0, 20, 0, 1);
        group(x, 1, 3, 1, 19, 0, 1);
    }

    private static void onwards() {
        // Up in 2 and down in 3: five minutes a round, the slope in the minute that it comes up.
        SkiHill x = new SkiHill();
        x.lift(0, 1, 1, 2, 0);
        x.slope(1, 0, 3, 0, 1);
        x.group(1, 0, 0);
        x.step(501);
        group(x, 0, 2, 0, 2, 101, 100);
        x.step(2);
        group(x, 0, 3, 0, 3, 101, 101);
        // Free since (b), by numbers: group 0 comes down ahead of group 1 that is new.
        SkiHill y = new SkiHill();
        y.lift(0, 1, 1, 9, 0);
        y.slope(1, 0, 3, 0, 1);
        y.group(1, 0, 1);
        y.step(3);
        y.group(1, 0, 0);
        y.step(1);
        group(y, 0, 2, 0, 9, 1, 1);
        group(y, 1, 1, 0, 0, 0, 0);
    }
}
