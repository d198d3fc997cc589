import java.util.NoSuchElementException;

/** Section 3 and promises 14 to 17: each sentence that names an edge has a test of its own. */
public final class EdgeDayTest {
    private static final int LOWEST = Integer.MIN_VALUE;
    private static final int HIGHEST = Integer.MAX_VALUE;

    public static void main(String[] args) {
        asNow();
        oneMinuteLess();
        freeAtTheEnd();
        freeAlsoSinceB();
        steepNotAboveSkill();
        greatestSteep();
        leastNumberOfSlopes();
        withItsMinutes();
        withoutASlope();
        fewestPeople();
        leastNumberOfLifts();
        asTheLastOne();
        elseStaysFree();
        liftsThatRun();
        sizeNotAboveSeats();
        oneMinuteMore();
        sizeTimesSteep();
        asFarAsThereIs();
        soManyMinutes();
        looks();
        howOften();
        rows();
        people();
        Check.close();
    }

    private static void is(SkiHill x, int group, int state, int where, int toGo) {
        Check.due("minute " + x.count(4) + ": what group " + group + " does", x.look(group, 0), state);
        Check.due("minute " + x.count(4) + ": where group " + group + " is", x.look(group, 1), where);
        Check.due("minute " + x.count(4) + ": minutes to go of group " + group, x.look(group, 2), toGo);
    }

    private static void asNow() {
        Check.sentence("(a) Which SLOPES are OPEN, which LIFTS RUN, is as now, for all of this minute.");
        // What the third of the four wears closes the one SLOPE and opens the other, behind the minute alone.
        SkiHill x = new SkiHill();
        x.slope(0, 1, 20, 9, 1);
        x.slope(0, 1, 20, 8, 1);
        x.snow(0, false, 110);
        x.snow(1, false, 110);
        Check.rule(x, 0, "worn < 1");
        Check.rule(x, 1, "not open 0");
        for (int k = 0; k < 4; k++) {
            x.group(4, 9, 0);
        }
        x.step(1);
        for (int k = 0; k < 4; k++) {
            is(x, k, 3, 0, 20);
        }
        Check.due("closed behind the minute", x.open(0), false);
        Check.due("opened behind the minute", x.open(1), true);
        x.group(4, 9, 0);
        x.step(1);
        is(x, 4, 3, 1, 20);
        // The HOUR is that of the minute's begin.
        SkiHill y = new SkiHill();
        y.slope(0, 1, 20, 0, 1);
        Check.rule(y, 0, "hour = 1");
        y.group(1, 0, 0);
        y.step(60);
        is(y, 0, 0, 0, 0);
        Check.due("open from now on", y.open(0), true);
        y.step(1);
        is(y, 0, 3, 0, 20);
        SkiHill z = new SkiHill();
        z.slope(0, 1, 20, 0, 1);
        Check.rule(z, 0, "hour < 1");
        z.step(59);
        z.group(1, 0, 0);
        z.step(1);
        is(z, 0, 3, 0, 20);
        Check.due("closed from now on", z.open(0), false);
    }

    private static void oneMinuteLess() {
        Check.sentence("if it RIDES or is on a SLOPE it has one minute less to go");
        SkiHill x = new SkiHill();
        x.lift(0, 2, 4, 3, 0);
        x.slope(1, 3, 4, 0, 1);
        x.lift(4, 5, 1, 1, 0);
        x.group(4, 0, 0);
        x.group(4, 0, 1);
        x.group(4, 0, 4);
        x.step(1);
        for (int minute = 0; minute < 3; minute++) {
            is(x, 0, 2, 0, 3 - minute);
            is(x, 1, 3, 0, 4 - minute);
            // Who waits has none to go.
            is(x, 2, 1, 1, 0);
            x.step(1);
        }
        is(x, 0, 0, 2, 0);
        is(x, 1, 3, 0, 1);
    }

    private static void freeAtTheEnd() {
        Check.sentence("with none it is FREE at the end's PLACE");
        SkiHill x = new SkiHill();
        x.lift(0, 9, 4, 1, 0);
        x.slope(1, 8, 1, 0, 1);
        x.group(1, 0, 0);
        x.group(1, 0, 1);
        x.step(1);
        is(x, 0, 2, 0, 1);
        is(x, 1, 3, 0, 1);
        x.step(1);
        is(x, 0, 0, 9, 0);
        is(x, 1, 0, 8, 0);
        x.step(1);
        is(x, 0, 0, 9, 0);
        is(x, 1, 0, 8, 0);
        // Of a LIFT that does not run and a SLOPE that is not OPEN any more, too.
        SkiHill y = new SkiHill();
        y.lift(0, 9, 4, 2, 0);
        y.slope(1, 8, 2, 0, 1);
        y.group(1, 0, 0);
        y.group(1, 0, 1);
        y.step(1);
        y.stop(0, true);
        Check.rule(y, 0, "wind = 9");
        y.step(1);
        is(y, 0, 2, 0, 1);
        is(y, 1, 3, 0, 1);
        y.step(1);
        is(y, 0, 0, 9, 0);
        is(y, 1, 0, 8, 0);
    }

    private static void freeAlsoSinceB() {
        Check.sentence("(c) Each GROUP, by numbers, that is FREE (also since (b))");
        SkiHill x = new SkiHill();
        x.slope(0, 0, 1, 0, 1);
        x.snow(0, true, 1000);
        x.group(1, 0, 0);
        x.step(10);
        Check.due("goes down each minute", x.look(0, 4), 10);
        Check.due("wears each minute", x.cell(0, 3), 10);
        SkiHill y = new SkiHill();
        y.lift(0, 0, 1, 1, 0);
        y.group(1, 0, 0);
        y.step(10);
        Check.due("rides each minute", y.look(0, 3), 10);
        // By numbers, whoever came first: 0 comes down in this minute, 1 is new.
        SkiHill z = new SkiHill();
        z.slope(1, 0, 1, 0, 1);
        z.lift(0, 2, 1, 9, 0);
        z.group(1, 0, 1);
        z.step(1);
        z.group(1, 0, 0);
        z.step(1);
        is(z, 0, 2, 0, 9);
        is(z, 1, 1, 0, 0);
    }

    private static void steepNotAboveSkill() {
        Check.sentence("with STEEP not above its SKILL");
        for (int skill = 0; skill <= 9; skill++) {
            for (int steep = 0; steep <= 9; steep++) {
                SkiHill x = new SkiHill();
                x.slope(0, 1, 5, steep, 1);
                x.group(1, skill, 0);
                x.step(1);
                Check.due("skill " + skill + ", steep " + steep, x.look(0, 0), steep <= skill ? 3 : 0);
            }
        }
    }

    private static void greatestSteep() {
        Check.sentence("of the OPEN SLOPES from its PLACE");
        SkiHill x = new SkiHill();
        x.slope(0, 1, 5, 3, 1);
        x.slope(0, 1, 5, 6, 1);
        x.slope(2, 1, 5, 7, 1);
        x.slope(0, 1, 5, 8, 1);
        x.slope(0, 1, 5, 1, 1);
        Check.rule(x, 3, "wind = 1");
        x.group(1, 9, 0);
        x.step(1);
        is(x, 0, 3, 1, 5);
        x.wind(1);
        x.group(1, 9, 0);
        x.group(1, 7, 0);
        x.group(1, 2, 0);
        x.group(1, 0, 0);
        x.group(1, 9, 1);
        Check.sentence("the one of greatest STEEP");
        x.step(1);
        is(x, 1, 3, 3, 5);
        is(x, 2, 3, 1, 5);
        is(x, 3, 3, 4, 5);
        is(x, 4, 0, 0, 0);
        is(x, 5, 0, 1, 0);
    }

    private static void leastNumberOfSlopes() {
        Check.sentence("of greatest STEEP, of several the least number");
        for (int first = 0; first < 10; first++) {
            SkiHill x = new SkiHill();
            for (int k = 0; k < 10; k++) {
                x.slope(0, 1, 5, k < first ? 4 : 5, 1);
            }
            x.group(1, 5, 0);
            x.step(1);
            is(x, 0, 3, first, 5);
        }
        SkiHill y = new SkiHill();
        for (int k = 0; k < 10; k++) {
            y.slope(0, 1, 5, 0, 1);
        }
        Check.rule(y, 0, "wind = 1");
        Check.rule(y, 1, "open 0");
        y.group(1, 0, 0);
        y.step(1);
        is(y, 0, 3, 2, 5);
    }

    private static void withItsMinutes() {
        Check.sentence("it is on that, with its MINUTES to go, and WEARS it");
        SkiHill x = new SkiHill();
        x.slope(0, 1, 20, 2, 4);
        for (int cell = 0; cell < 4; cell++) {
            x.snow(cell, false, 50);
        }
        x.group(2, 2, 0);
        x.step(1);
        is(x, 0, 3, 0, 20);
        for (int minute = 0; minute < 3; minute++) {
            for (int cell = 0; cell < 4; cell++) {
                Check.due("worn once in each cell", x.cell(cell, 3), 6);
            }
            x.step(1);
        }
    }

    private static void withoutASlope() {
        Check.sentence("without one: of the LIFTS from there that RUN");
        SkiHill x = new SkiHill();
        x.lift(0, 1, 20, 5, 10);
        x.lift(0, 1, 20, 5, 20);
        x.lift(2, 1, 20, 5, 20);
        x.slope(0, 1, 5, 4, 1);
        Check.rule(x, 0, "hour = 0");
        x.group(1, 4, 0);
        x.group(1, 3, 0);
        x.step(1);
        is(x, 0, 3, 0, 5);
        is(x, 1, 2, 0, 5);
        x.wind(11);
        x.group(1, 3, 0);
        x.step(1);
        is(x, 2, 2, 1, 5);
        x.wind(20);
        x.stop(1, true);
        x.group(1, 3, 0);
        x.step(1);
        is(x, 3, 0, 0, 0);
    }

    private static void fewestPeople() {
        Check.sentence("that at which the fewest people (SIZES) wait just then");
        // One GROUP of four against three of one: the people count, not the GROUPS.
        SkiHill x = new SkiHill();
        x.lift(0, 1, 1, 5, 0);
        x.lift(0, 1, 1, 5, 0);
        x.group(4, 0, 0);
        for (int k = 1; k <= 3; k++) {
            x.group(1, 0, 0);
        }
        x.group(4, 0, 0);
        x.group(1, 0, 0);
        x.step(1);
        // 4|0 4|1 4|2 4|3 4|7 5|7; then one of LIFT 1 rides.
        int[] lifts = {0, 1, 1, 1, 1, 0};
        for (int k = 0; k < lifts.length; k++) {
            Check.due("lift of group " + k, x.look(k, 1), lifts[k]);
        }
        Check.due("waits", x.look(5, 0), 1);
        // Just then: who has come to ride does not wait any more, and who came to wait in this minute does.
        SkiHill y = new SkiHill();
        y.lift(0, 1, 4, 9, 0);
        y.lift(0, 1, 4, 9, 0);
        y.group(4, 0, 0);
        y.step(1);
        y.group(4, 0, 0);
        y.group(1, 0, 0);
        y.step(1);
        is(y, 1, 2, 0, 9);
        is(y, 2, 2, 1, 9);
        // They are counted where a LIFT is passed over, too: 4 wait at LIFT 0 that was stopped.
        SkiHill z = new SkiHill();
        z.lift(0, 1, 1, 9, 0);
        z.lift(0, 1, 3, 9, 0);
        z.stop(1, true);
        z.group(4, 0, 0);
        z.step(1);
        z.stop(0, true);
        z.stop(1, false);
        z.group(4, 0, 0);
        z.step(1);
        is(z, 1, 1, 1, 0);
        z.stop(0, false);
        z.group(1, 0, 0);
        z.group(1, 0, 0);
        z.step(1);
        is(z, 2, 1, 0, 0);
        is(z, 3, 1, 1, 0);
    }

    private static void leastNumberOfLifts() {
        Check.sentence("of several the least number: it WAITS there");
        SkiHill x = new SkiHill();
        for (int k = 0; k < 8; k++) {
            x.lift(k < 3 ? 5 : 0, 1, 1, 9, 0);
        }
        for (int k = 0; k < 12; k++) {
            x.group(2, 0, 0);
        }
        x.step(1);
        for (int k = 0; k < 12; k++) {
            is(x, k, 1, 3 + k % 5, 0);
        }
    }

    private static void asTheLastOne() {
        Check.sentence("it WAITS there, as the last one");
        SkiHill x = new SkiHill();
        x.lift(0, 1, 1, 1, 0);
        x.group(2, 0, 0);
        x.group(1, 0, 0);
        x.step(1);
        x.group(1, 0, 0);
        x.step(1);
        for (int k = 0; k < 3; k++) {
            Check.due("row", x.row(0, k), k);
        }
        // A lower number that comes later stands behind a higher one that waits.
        SkiHill y = new SkiHill();
        y.slope(1, 0, 2, 0, 1);
        y.lift(0, 5, 1, 1, 0);
        y.group(1, 0, 1);
        y.group(2, 0, 0);
        y.step(3);
        Check.due("first", y.row(0, 0), 1);
        Check.due("last", y.row(0, 1), 0);
        Check.due("nobody behind", y.row(0, 2), SkiHill.NONE);
    }

    private static void elseStaysFree() {
        Check.sentence("else it stays FREE.");
        SkiHill x = new SkiHill();
        x.lift(0, 1, 1, 1, 5);
        x.slope(0, 1, 1, 3, 1);
        x.group(1, 2, 0);
        x.group(1, 9, 7);
        x.wind(6);
        x.step(600);
        is(x, 0, 0, 0, 0);
        is(x, 1, 0, 7, 0);
        Check.due("never went", x.look(0, 3) + x.look(0, 4) + x.look(1, 3) + x.look(1, 4), 0);
        x.wind(5);
        x.step(1);
        is(x, 0, 2, 0, 1);
    }

    private static void liftsThatRun() {
        Check.sentence("(d) Each LIFT that RUNS, by numbers: from the front of its row");
        SkiHill x = new SkiHill();
        x.lift(0, 1, 1, 9, 5);
        x.lift(2, 3, 1, 9, 6);
        for (int k = 0; k < 6; k++) {
            x.group(1, 0, k % 2 * 2);
        }
        x.step(1);
        is(x, 0, 2, 0, 9);
        is(x, 1, 2, 1, 9);
        x.wind(6);
        x.step(1);
        // LIFT 0 stands: its row is as it was.
        is(x, 2, 1, 0, 0);
        is(x, 3, 2, 1, 9);
        x.stop(1, true);
        x.wind(5);
        x.step(1);
        is(x, 2, 2, 0, 9);
        is(x, 4, 1, 0, 0);
        is(x, 5, 1, 1, 0);
        Check.due("row of the one", x.row(0, 0), 4);
        Check.due("row of the other", x.row(1, 0), 5);
    }

    private static void sizeNotAboveSeats() {
        Check.sentence("as long as the next GROUP's SIZE is not above the SEATS that are left: it RIDES, with MINUTES to go.");
        for (int seats = 1; seats <= 20; seats++) {
            for (int size = 1; size <= 4; size++) {
                SkiHill x = new SkiHill();
                x.lift(0, 1, seats, 30, 0);
                for (int k = 0; k < 22; k++) {
                    x.group(size, 0, 0);
                }
                x.step(1);
                Check.due("ride of size " + size + " on " + seats, x.people(2), seats / size * size);
            }
        }
        // The next one alone is asked: a smaller one behind it does not go past.
        SkiHill y = new SkiHill();
        y.lift(0, 1, 4, 30, 0);
        int[] sizes = {1, 4, 1, 3, 4, 2, 2};
        for (int size : sizes) {
            y.group(size, 0, 0);
        }
        int[][] rides = {{0}, {1}, {2, 3}, {4}, {5, 6}};
        int next = 0;
        for (int minute = 0; minute < rides.length; minute++) {
            y.step(1);
            for (int group : rides[minute]) {
                is(y, group, 2, 0, 30);
                next = group + 1;
            }
            Check.due("the next one", y.row(0, 0), next < sizes.length ? next : SkiHill.NONE);
        }
    }

    private static void oneMinuteMore() {
        Check.sentence("(e) The MINUTE is one more.");
        SkiHill x = new SkiHill();
        for (int minute = 1; minute <= 130; minute++) {
            Check.due("step(1)", x.step(1), minute);
            Check.due("count(4)", x.count(4), minute);
        }
    }

    private static void sizeTimesSteep() {
        Check.sentence("in each of its CELLS SIZE times (1 and STEEP) hundredths become WORN");
        for (int size = 1; size <= 4; size++) {
            for (int steep = 0; steep <= 9; steep++) {
                SkiHill x = new SkiHill();
                x.slope(5, 1, 9, steep, 1);
                x.slope(0, 1, 9, steep, 2);
                for (int cell = 0; cell < 3; cell++) {
                    x.snow(cell, cell == 1, 50);
                }
                x.group(size, 9, 0);
                x.step(1);
                Check.due("of another slope", x.cell(0, 3), 0);
                Check.due("size " + size + " steep " + steep, x.cell(1, 3), size * (1 + steep));
                Check.due("in each", x.cell(2, 3), size * (1 + steep));
                Check.due("the depth stays", x.cell(2, 4), 50);
                Check.due("all that became worn", x.count(11), 2 * size * (1 + steep));
            }
        }
    }

    private static void asFarAsThereIs() {
        Check.sentence("of PUSHED first, then MADE, then FALLEN, as far as there is.");
        // FALLEN, MADE, PUSHED: of each a little less than, as much as, a little more than what a descent of ten needs.
        for (int pushed = 9; pushed <= 11; pushed++) {
            for (int made = 0; made <= 2; made++) {
                for (int fallen = 0; fallen <= 2; fallen++) {
                    SkiHill x = new SkiHill();
                    x.slope(0, 0, 1, 9, 1);
                    x.snow(0, false, pushed);
                    x.push(0);
                    x.snow(0, true, made);
                    x.snow(0, false, fallen);
                    x.group(1, 9, 0);
                    x.step(1);
                    int worn = Math.min(10, pushed + made + fallen);
                    int ofPushed = Math.min(pushed, 10);
                    int ofMade = Math.min(made, worn - ofPushed);
                    Check.due("worn", x.cell(0, 3), worn);
                    Check.due("pushed left", x.cell(0, 2), pushed - ofPushed);
                    Check.due("made left", x.cell(0, 1), made - ofMade);
                    Check.due("fallen left", x.cell(0, 0), fallen - (worn - ofPushed - ofMade));
                    x.step(1);
                    Check.due("all of it", x.cell(0, 3), pushed + made + fallen);
                    x.step(1);
                    Check.due("what is worn is not worn again", x.count(11), pushed + made + fallen);
                }
            }
        }
        // Each CELL for itself: what one lacks, another does not give.
        SkiHill y = new SkiHill();
        y.slope(0, 1, 9, 9, 3);
        y.snow(0, true, 3);
        y.snow(2, true, 100);
        y.group(4, 9, 0);
        y.step(1);
        Check.due("three", y.cell(0, 3), 3);
        Check.due("none", y.cell(1, 3), 0);
        Check.due("forty", y.cell(2, 3), 40);
        Check.due("all", y.count(11), 43);
    }

    private static void soManyMinutes() {
        Check.sentence("So many minutes: the MINUTE. IllegalArgumentException: not 0 to 600.");
        SkiHill x = new SkiHill();
        x.slope(0, 0, 1, 0, 1);
        x.group(1, 0, 0);
        Check.due("none", x.step(0), 0);
        Check.due("none went by", x.look(0, 0), 0);
        int sum = 0;
        for (int minutes : new int[] {600, 599, 1, 0, 2, 600}) {
            sum += minutes;
            Check.due("step(" + minutes + ")", x.step(minutes), sum);
            Check.due("went down each minute", x.look(0, 4), sum);
        }
        for (int none : new int[] {-1, 601, -600, LOWEST, HIGHEST}) {
            Check.number("step(" + none + ")", () -> x.step(none));
            Check.due("none went by", x.count(4), sum);
        }
        // One step of many is as many steps of one.
        SkiHill many = busy();
        SkiHill one = busy();
        many.step(137);
        for (int k = 0; k < 137; k++) {
            one.step(1);
        }
        for (int group = 0; group < 20; group++) {
            for (int what = 0; what <= 4; what++) {
                Check.due("look(" + group + ", " + what + ")", many.look(group, what), one.look(group, what));
            }
        }
    }

    private static SkiHill busy() {
        SkiHill x = new SkiHill();
        x.lift(0, 1, 5, 3, 0);
        x.lift(0, 2, 4, 2, 0);
        x.slope(1, 0, 4, 2, 1);
        x.slope(2, 0, 7, 5, 1);
        x.slope(2, 1, 2, 0, 1);
        Check.rule(x, 1, "hour = 1");
        for (int k = 0; k < 20; k++) {
            x.group(1 + k % 4, 2 + k % 5, k % 3);
        }
        return x;
    }

    private static void looks() {
        Check.sentence("minutes to go (0 of 0, 1)");
        SkiHill x = new SkiHill();
        x.lift(0, 1, 3, 2, 0);
        x.slope(1, 2, 2, 0, 1);
        x.group(3, 0, 0);
        x.group(3, 0, 0);
        is(x, 0, 0, 0, 0);
        x.step(1);
        is(x, 0, 2, 0, 2);
        is(x, 1, 1, 0, 0);
        x.step(2);
        is(x, 0, 3, 0, 2);
        x.step(2);
        is(x, 0, 0, 2, 0);
        Check.sentence("NoSuchElementException: another what.");
        for (int none : new int[] {-1, 5, 6, 256, LOWEST, HIGHEST}) {
            Check.thrown("look(0, " + none + ")", NoSuchElementException.class, () -> x.look(0, none));
            Check.place("look(2, " + none + ")", () -> x.look(2, none));
        }
        for (int none : new int[] {-1, 2, 60, LOWEST, HIGHEST}) {
            Check.place("look(" + none + ", 0)", () -> x.look(none, 0));
        }
    }

    private static void howOften() {
        Check.sentence("3 how often it came to ride, 4 to go down");
        SkiHill x = new SkiHill();
        x.lift(0, 1, 1, 2, 0);
        x.slope(1, 0, 3, 0, 1);
        x.group(1, 0, 0);
        x.group(1, 0, 0);
        // Waiting counts for nothing, and coming to it counts, not its end.
        int[][] due = {{1, 0, 0, 0}, {1, 0, 1, 0}, {1, 1, 1, 0}, {1, 1, 1, 1}, {1, 1, 1, 1}, {2, 1, 1, 1}, {2, 1, 2, 1}};
        for (int[] row : due) {
            x.step(1);
            Check.due("rides of 0 in minute " + x.count(4), x.look(0, 3), row[0]);
            Check.due("descents of 0 in minute " + x.count(4), x.look(0, 4), row[1]);
            Check.due("rides of 1 in minute " + x.count(4), x.look(1, 3), row[2]);
            Check.due("descents of 1 in minute " + x.count(4), x.look(1, 4), row[3]);
        }
    }

    private static void rows() {
        Check.sentence("The GROUP at place k (from 0 on) of a LIFT's row; NONE if there is none such.");
        SkiHill x = new SkiHill();
        x.lift(0, 1, 1, 30, 0);
        x.lift(5, 1, 1, 30, 0);
        Check.due("of an empty row", x.row(0, 0), SkiHill.NONE);
        for (int k = 0; k < 60; k++) {
            x.group(2, 0, 0);
        }
        Check.due("of none that wait yet", x.row(0, 0), SkiHill.NONE);
        x.step(1);
        for (int k = 0; k < 60; k++) {
            Check.due("place " + k, x.row(0, k), k);
        }
        for (int none : new int[] {60, 61, -1, LOWEST, HIGHEST}) {
            Check.due("place " + none, x.row(0, none), SkiHill.NONE);
            Check.due("place " + none + " of the other", x.row(1, none), SkiHill.NONE);
        }
        Check.due("place 0 of the other", x.row(1, 0), SkiHill.NONE);
        for (int none : new int[] {-1, 2, 8, LOWEST, HIGHEST}) {
            Check.place("row(" + none + ", 0)", () -> x.row(none, 0));
            Check.place("row(" + none + ", -1)", () -> x.row(none, -1));
        }
    }

    private static void people() {
        Check.sentence("How many people (SIZES) are FREE (0), WAIT (1), RIDE (2), are on SLOPES (3). NONE for another what.");
        SkiHill x = new SkiHill();
        for (int none : new int[] {-1, 4, 256, LOWEST, HIGHEST}) {
            Check.due("people(" + none + ")", x.people(none), SkiHill.NONE);
        }
        x.lift(0, 1, 4, 9, 0);
        x.slope(2, 1, 9, 0, 1);
        x.group(4, 0, 0);
        x.group(3, 0, 0);
        x.group(2, 0, 2);
        x.group(1, 0, 3);
        Check.due("all are free", x.people(0), 10);
        x.step(1);
        int[] due = {1, 3, 4, 2};
        for (int what = 0; what < 4; what++) {
            Check.due("people(" + what + ")", x.people(what), due[what]);
        }
        SkiHill y = new SkiHill();
        for (int k = 0; k < 60; k++) {
            y.group(4, 0, 0);
        }
        Check.due("the most people", y.people(0), 240);
        for (int what = 1; what < 4; what++) {
            Check.due("none", y.people(what), 0);
        }
    }
}
