import java.util.ArrayList;
import java.util.Arrays;
import java.util.NoSuchElementException;

public final class SkiHill {
    public static final int NONE = -1;

    private static final int PLACES = 10;
    private static final int MOST_LIFTS = 8;
    private static final int MOST_SLOPES = 10;
    private static final int MOST_CELLS = 40;
    private static final int MOST_GROUPS = 60;
    private static final int MOST_LINKS = 80;
    private static final int MOST_BYTES = 400;
    private static final int FEED_BYTES = 20;

    // What a GROUP does; the numbers are those that look() and people() speak of.
    private static final int FREE = 0;
    private static final int WAITS = 1;
    private static final int RIDES = 2;
    private static final int ON_SLOPE = 3;

    // KINDS of SNOW.
    private static final int FALLEN = 0;
    private static final int MADE = 1;
    private static final int PUSHED = 2;
    private static final int WORN = 3;
    private static final int KINDS = 4;

    // What stands in a RULE's text; the first nine also stand in its code.
    private static final int WORD_SNOW = 0;
    private static final int WORD_WIND = 1;
    private static final int WORD_HOUR = 2;
    private static final int WORD_WORN = 3;
    private static final int WORD_OPEN = 4;
    private static final int WORD_LIFT = 5;
    private static final int WORD_NOT = 6;
    private static final int WORD_AND = 7;
    private static final int WORD_OR = 8;
    private static final int SIGN_LESS = 9;
    private static final int SIGN_MORE = 10;
    private static final int SIGN_EQUAL = 11;
    private static final int SIGN_OPENING = 12;
    private static final int SIGN_CLOSING = 13;
    private static final int NUMBER = 14;
    private static final int TEXT_END = 15;
    private static final int WRONG = 16;

    private static final int MOST_NESTED = 20;
    private static final int MOST_DIGITS = 6;

    // A code word holds a NUMBER (below 2 to the 20th) in its low bits, above it a sign, above that a word.
    private static final int SIGN_SHIFT = 20;
    private static final int WORD_SHIFT = 24;
    private static final int NUMBER_MASK = (1 << SIGN_SHIFT) - 1;
    private static final int SIGN_MASK = 15;

    private final ArrayList<Lift> lifts = new ArrayList<>();
    private final ArrayList<Slope> slopes = new ArrayList<>();
    private final ArrayList<Cell> cells = new ArrayList<>();
    private final ArrayList<Group> groups = new ArrayList<>();
    private final ArrayList<Link> links = new ArrayList<>();
    private final RuleReader reader = new RuleReader();
    private final byte[] tape = new byte[MOST_BYTES];
    private int tapeLength;
    private int windNow;
    private int minuteNow;
    private int faultByte = NONE;
    private int faultSlopes;
    private long snowFallen;
    private long snowMade;
    private long snowMelted;
    private long snowWorn;

    public SkiHill() {
    }

    // ---- the TAPE ----

    public int feed(int a, int b, int c, int d, int e) {
        if (tapeLength > MOST_BYTES - FEED_BYTES) {
            return NONE;
        }
        putNumber(a);
        putNumber(b);
        putNumber(c);
        putNumber(d);
        putNumber(e);
        return tapeLength;
    }

    private void putNumber(int number) {
        for (int shift = 24; shift >= 0 && tapeLength < tape.length; shift -= 8) {
            tape[tapeLength] = (byte) (number >> shift);
            tapeLength++;
        }
    }

    public boolean end(int n) {
        if (n < 0 || n > tapeLength) {
            return false;
        }
        tapeLength = n;
        return true;
    }

    // ---- LIFTS and SLOPES ----

    public int lift(int from, int to, int seats, int minutes, int wind) throws IndexOutOfBoundsException, IllegalArgumentException, UnsupportedOperationException {
        checkPlace(from);
        checkPlace(to);
        checkNumber(seats, 1, 20);
        checkNumber(minutes, 1, 30);
        checkNumber(wind, 0, 200);
        checkRoom(lifts.size(), MOST_LIFTS);
        int number = lifts.size();
        lifts.add(new Lift(number, from, to, seats, minutes, wind));
        return number;
    }

    public int slope(int from, int to, int minutes, int steep, int cells) throws IndexOutOfBoundsException, IllegalArgumentException, UnsupportedOperationException {
        checkPlace(from);
        checkPlace(to);
        checkNumber(minutes, 1, 20);
        checkNumber(steep, 0, 9);
        checkNumber(cells, 1, 4);
        checkRoom(slopes.size(), MOST_SLOPES);
        checkRoom(this.cells.size() + cells - 1, MOST_CELLS);
        int number = slopes.size();
        Slope made = new Slope(number, from, to, minutes, steep);
        slopes.add(made);
        for (int k = 0; k < cells; k++) {
            addCell(made);
        }
        return number;
    }

    private void addCell(Slope slope) {
        Cell made = new Cell(slope.number);
        cells.add(made);
        slope.cells.add(made);
    }

    public boolean runs(int lift) throws IndexOutOfBoundsException {
        return isRunning(liftAt(lift));
    }

    private boolean isRunning(Lift lift) {
        return !lift.stopped && windNow <= lift.mostWind;
    }

    public void wind(int v) throws IllegalArgumentException {
        checkNumber(v, 0, 300);
        windNow = v;
    }

    public boolean stop(int lift, boolean on) throws IndexOutOfBoundsException {
        Lift told = liftAt(lift);
        boolean other = told.stopped != on;
        told.stopped = on;
        return other;
    }

    // ---- RULES ----

    public int rule(int slope) throws IndexOutOfBoundsException, IllegalArgumentException, IllegalStateException {
        int length = tapeLength;
        // The TAPE is used up by every rule(), also by one that throws.
        tapeLength = 0;
        Slope told = slopeAt(slope);
        boolean right = reader.takes(tape, length, slopes.size(), lifts.size());
        faultByte = reader.wrongByte;
        faultSlopes = 0;
        if (!right) {
            throw new IllegalArgumentException();
        }
        faultSlopes = circleWith(told, reader.named);
        if (faultSlopes != 0) {
            throw new IllegalStateException();
        }
        told.ruled = true;
        told.named = reader.named;
        told.code = reader.codeCopy();
        return Integer.bitCount(told.named);
    }

    /** The SLOPES that would lean on themselves, as bits, if a SLOPE named these. */
    private int circleWith(Slope changed, int named) {
        for (int k = 0; k < slopes.size(); k++) {
            Slope one = slopes.get(k);
            one.leans = one == changed ? named : one.named;
        }
        for (int through = 0; through < slopes.size(); through++) {
            for (int k = 0; k < slopes.size(); k++) {
                Slope one = slopes.get(k);
                if (hasBit(one.leans, through)) {
                    one.leans |= slopes.get(through).leans;
                }
            }
        }
        int circle = 0;
        for (int k = 0; k < slopes.size(); k++) {
            if (hasBit(slopes.get(k).leans, k)) {
                circle |= 1 << k;
            }
        }
        return circle;
    }

    public boolean unrule(int slope) throws IndexOutOfBoundsException {
        Slope told = slopeAt(slope);
        boolean had = told.ruled;
        told.ruled = false;
        told.named = 0;
        return had;
    }

    public int fault(int what) {
        if (what == 0) {
            return faultByte;
        }
        return what == 1 ? faultSlopes : NONE;
    }

    public boolean open(int slope) throws IndexOutOfBoundsException {
        Slope told = slopeAt(slope);
        return hasBit(openSlopes(), told.number);
    }

    /** The SLOPES that are OPEN now, as bits: each is judged behind all that it names, which ends as no SLOPE leans on itself. */
    private int openSlopes() {
        int all = (1 << slopes.size()) - 1;
        int judged = 0;
        int open = 0;
        for (int round = 0; round < slopes.size() && judged != all; round++) {
            for (int k = 0; k < slopes.size(); k++) {
                Slope one = slopes.get(k);
                if (hasBit(judged, k) || (one.named & ~judged) != 0) {
                    continue;
                }
                judged |= 1 << k;
                if (!one.ruled || holds(one, open)) {
                    open |= 1 << k;
                }
            }
        }
        return open;
    }

    /** Whether a SLOPE's RULE holds. Its code stands operands first; the bits of a long are the stack, as at most 43 operands wait. */
    private boolean holds(Slope slope, int open) {
        long stack = 0;
        for (int k = 0; k < slope.code.length; k++) {
            int word = slope.code[k] >> WORD_SHIFT;
            long last = stack & 1;
            long before = stack >> 1 & 1;
            if (word == WORD_NOT) {
                stack ^= 1;
            } else if (word == WORD_AND) {
                stack = stack >> 2 << 1 | before & last;
            } else if (word == WORD_OR) {
                stack = stack >> 2 << 1 | before | last;
            } else {
                stack = stack << 1 | (passes(slope, slope.code[k], open) ? 1 : 0);
            }
        }
        return (stack & 1) == 1;
    }

    private boolean passes(Slope slope, int code, int open) {
        int number = code & NUMBER_MASK;
        switch (code >> WORD_SHIFT) {
            case WORD_OPEN:
                return hasBit(open, number);
            case WORD_LIFT:
                return number < lifts.size() && isRunning(lifts.get(number));
            case WORD_SNOW:
                return compares(slope.leastDepth() / 100, code, number);
            case WORD_WORN:
                return compares(slope.mostWorn() / 100, code, number);
            case WORD_WIND:
                return compares(windNow, code, number);
            default:
                return compares(minuteNow / 60, code, number);
        }
    }

    private static boolean compares(int value, int code, int number) {
        int sign = code >> SIGN_SHIFT & SIGN_MASK;
        if (sign == SIGN_LESS) {
            return value < number;
        }
        return sign == SIGN_MORE ? value > number : value == number;
    }

    // ---- GROUPS ----

    public int group(int size, int skill, int place) throws IndexOutOfBoundsException, IllegalArgumentException, UnsupportedOperationException {
        checkPlace(place);
        checkNumber(size, 1, 4);
        checkNumber(skill, 0, 9);
        checkRoom(groups.size(), MOST_GROUPS);
        int number = groups.size();
        groups.add(new Group(number, size, skill, place));
        return number;
    }

    public int step(int minutes) throws IllegalArgumentException {
        checkNumber(minutes, 0, 600);
        for (int k = 0; k < minutes; k++) {
            passMinute();
        }
        return minuteNow;
    }

    private void passMinute() {
        boolean anyFree = false;
        for (int k = 0; k < groups.size(); k++) {
            Group one = groups.get(k);
            one.goOn();
            anyFree |= one.state == FREE;
        }
        if (anyFree) {
            // Nothing that a RULE looks at has changed since the minute's begin.
            sendFree(openSlopes());
        }
        for (int k = 0; k < lifts.size(); k++) {
            if (isRunning(lifts.get(k))) {
                lifts.get(k).fill();
            }
        }
        minuteNow++;
    }

    private void sendFree(int open) {
        for (int k = 0; k < groups.size(); k++) {
            if (groups.get(k).state == FREE) {
                send(groups.get(k), open);
            }
        }
    }

    private void send(Group group, int open) {
        Slope slope = slopeFor(group, open);
        if (slope != null) {
            group.goDown(slope);
            snowWorn += slope.wear(group.size);
            return;
        }
        Lift lift = liftFor(group);
        if (lift != null) {
            group.waitAt(lift);
            lift.takeLast(group);
        }
    }

    private Slope slopeFor(Group group, int open) {
        Slope best = null;
        for (int k = 0; k < slopes.size(); k++) {
            Slope one = slopes.get(k);
            boolean fits = one.from == group.where && one.steep <= group.skill && hasBit(open, k);
            if (fits && (best == null || one.steep > best.steep)) {
                best = one;
            }
        }
        return best;
    }

    private Lift liftFor(Group group) {
        Lift best = null;
        for (int k = 0; k < lifts.size(); k++) {
            Lift one = lifts.get(k);
            boolean fits = one.from == group.where && isRunning(one);
            if (fits && (best == null || one.waiting < best.waiting)) {
                best = one;
            }
        }
        return best;
    }

    public int look(int group, int what) throws IndexOutOfBoundsException, NoSuchElementException {
        if (group < 0 || group >= groups.size()) {
            throw new IndexOutOfBoundsException();
        }
        Group told = groups.get(group);
        switch (what) {
            case 0:
                return told.state;
            case 1:
                return told.where;
            case 2:
                return told.toGo;
            case 3:
                return told.rides;
            case 4:
                return told.descents;
            default:
                throw new NoSuchElementException();
        }
    }

    public int row(int lift, int k) throws IndexOutOfBoundsException {
        Lift told = liftAt(lift);
        if (k < 0 || k >= told.row.size()) {
            return NONE;
        }
        return told.row.get(k).number;
    }

    public int people(int what) {
        if (what < FREE || what > ON_SLOPE) {
            return NONE;
        }
        int sum = 0;
        for (int k = 0; k < groups.size(); k++) {
            if (groups.get(k).state == what) {
                sum += groups.get(k).size;
            }
        }
        return sum;
    }

    // ---- SNOW ----

    public int snow(int cell, boolean made, int hundredths) throws IndexOutOfBoundsException, IllegalArgumentException {
        Cell told = cellAt(cell);
        checkNumber(hundredths, 0, 100000);
        if (made) {
            snowMade += hundredths;
            told.snow[MADE] += hundredths;
        } else {
            snowFallen += hundredths;
            told.snow[FALLEN] += hundredths;
        }
        return told.depth();
    }

    public int melt(int cell, int hundredths) throws IndexOutOfBoundsException, IllegalArgumentException {
        Cell told = cellAt(cell);
        checkNumber(hundredths, 0, 1000000);
        int melted = told.lose(hundredths);
        snowMelted += melted;
        return melted;
    }

    public int push(int cell) throws IndexOutOfBoundsException {
        return cellAt(cell).becomePushed();
    }

    public int cell(int cell, int what) throws IndexOutOfBoundsException, NoSuchElementException {
        Cell told = cellAt(cell);
        if (what >= 0 && what < KINDS) {
            return told.snow[what];
        }
        switch (what) {
            case 4:
                return told.depth();
            case 5:
                return told.slope;
            case 6:
                return told.want;
            case 7:
                return told.price;
            default:
                throw new NoSuchElementException();
        }
    }

    // ---- CARRYING ----

    public int link(int a, int b, int length) throws IndexOutOfBoundsException, IllegalArgumentException, UnsupportedOperationException {
        Cell first = cellAt(a);
        Cell second = cellAt(b);
        if (a == b) {
            throw new IllegalArgumentException();
        }
        checkNumber(length, 1, 100);
        checkRoom(links.size(), MOST_LINKS);
        links.add(new Link(first, second, length));
        return links.size();
    }

    public void want(int cell, int hundredths) throws IndexOutOfBoundsException, IllegalArgumentException {
        Cell told = cellAt(cell);
        checkNumber(hundredths, 0, 1000000);
        told.want = hundredths;
    }

    public long least() {
        return Carrier.leastSum(cells, links);
    }

    public void price(int cell, int v) throws IndexOutOfBoundsException, IllegalArgumentException {
        Cell told = cellAt(cell);
        checkNumber(v, -10000, 10000);
        told.price = v;
    }

    public long judge() throws IllegalStateException {
        for (int k = 0; k < links.size(); k++) {
            if (!links.get(k).takesPrices()) {
                throw new IllegalStateException();
            }
        }
        long told = 0;
        for (int k = 0; k < cells.size(); k++) {
            told += cells.get(k).priceTells();
        }
        return told;
    }

    public long count(int what) {
        switch (what) {
            case 0:
                return lifts.size();
            case 1:
                return slopes.size();
            case 2:
                return cells.size();
            case 3:
                return groups.size();
            case 4:
                return minuteNow;
            case 5:
                return links.size();
            case 6:
                return windNow;
            case 7:
                return snowFallen;
            case 8:
                return snowMade;
            case 9:
                return snowMelted;
            case 10:
                return snowThere();
            case 11:
                return snowWorn;
            default:
                return NONE;
        }
    }

    private long snowThere() {
        long sum = 0;
        for (int k = 0; k < cells.size(); k++) {
            sum += cells.get(k).depth();
        }
        return sum;
    }

    // ---- what the calls have in common ----

    private static void checkPlace(int place) {
        if (place < 0 || place >= PLACES) {
            throw new IndexOutOfBoundsException();
        }
    }

    private static void checkNumber(int number, int least, int most) {
        if (number < least || number > most) {
            throw new IllegalArgumentException();
        }
    }

    private static void checkRoom(int there, int most) {
        if (there >= most) {
            throw new UnsupportedOperationException();
        }
    }

    private Lift liftAt(int lift) {
        if (lift < 0 || lift >= lifts.size()) {
            throw new IndexOutOfBoundsException();
        }
        return lifts.get(lift);
    }

    private Slope slopeAt(int slope) {
        if (slope < 0 || slope >= slopes.size()) {
            throw new IndexOutOfBoundsException();
        }
        return slopes.get(slope);
    }

    private Cell cellAt(int cell) {
        if (cell < 0 || cell >= cells.size()) {
            throw new IndexOutOfBoundsException();
        }
        return cells.get(cell);
    }

    private static boolean hasBit(int bits, int k) {
        return (bits >> k & 1) == 1;
    }

    private static final class Lift {
        final int number;
        final int from;
        final int to;
        final int seats;
        final int minutes;
        final int mostWind;
        final ArrayList<Group> row = new ArrayList<>();
        int waiting;
        boolean stopped;

        Lift(int number, int from, int to, int seats, int minutes, int mostWind) {
            this.number = number;
            this.from = from;
            this.to = to;
            this.seats = seats;
            this.minutes = minutes;
            this.mostWind = mostWind;
        }

        void takeLast(Group group) {
            row.add(group);
            waiting += group.size;
        }

        void fill() {
            int left = seats;
            for (int k = 0; k < MOST_GROUPS && !row.isEmpty() && row.get(0).size <= left; k++) {
                Group next = row.remove(0);
                left -= next.size;
                waiting -= next.size;
                next.rideOn(this);
            }
        }
    }

    private static final class Slope {
        final int number;
        final int from;
        final int to;
        final int minutes;
        final int steep;
        final ArrayList<Cell> cells = new ArrayList<>();
        boolean ruled;
        int named;
        int[] code = new int[0];
        int leans;

        Slope(int number, int from, int to, int minutes, int steep) {
            this.number = number;
            this.from = from;
            this.to = to;
            this.minutes = minutes;
            this.steep = steep;
        }

        int leastDepth() {
            int least = cells.isEmpty() ? 0 : cells.get(0).depth();
            for (int k = 1; k < cells.size(); k++) {
                least = Math.min(least, cells.get(k).depth());
            }
            return least;
        }

        int mostWorn() {
            int most = 0;
            for (int k = 0; k < cells.size(); k++) {
                most = Math.max(most, cells.get(k).snow[WORN]);
            }
            return most;
        }

        int wear(int size) {
            int sum = 0;
            for (int k = 0; k < cells.size(); k++) {
                sum += cells.get(k).becomeWorn(size * (1 + steep));
            }
            return sum;
        }
    }

    private static final class Group {
        final int number;
        final int size;
        final int skill;
        int state = FREE;
        int where;
        int endPlace;
        int toGo;
        int rides;
        int descents;

        Group(int number, int size, int skill, int place) {
            this.number = number;
            this.size = size;
            this.skill = skill;
            this.where = place;
        }

        void goOn() {
            if (state != RIDES && state != ON_SLOPE) {
                return;
            }
            toGo--;
            if (toGo == 0) {
                state = FREE;
                where = endPlace;
            }
        }

        void goDown(Slope slope) {
            state = ON_SLOPE;
            where = slope.number;
            endPlace = slope.to;
            toGo = slope.minutes;
            descents++;
        }

        void waitAt(Lift lift) {
            state = WAITS;
            where = lift.number;
        }

        void rideOn(Lift lift) {
            state = RIDES;
            endPlace = lift.to;
            toGo = lift.minutes;
            rides++;
        }
    }

    private static final class Cell {
        final int slope;
        final int[] snow = new int[KINDS];
        int want;
        int price;
        // What the Carrier keeps here while it looks for the least sum.
        int spare;
        int missing;
        int far;
        Link via;

        Cell(int slope) {
            this.slope = slope;
        }

        int depth() {
            return snow[FALLEN] + snow[MADE] + snow[PUSHED] + snow[WORN];
        }

        int lose(int most) {
            int lost = 0;
            for (int kind = FALLEN; kind < KINDS; kind++) {
                lost += take(kind, most - lost);
            }
            return lost;
        }

        int becomeWorn(int most) {
            int worn = 0;
            for (int kind = PUSHED; kind >= FALLEN; kind--) {
                worn += take(kind, most - worn);
            }
            snow[WORN] += worn;
            return worn;
        }

        int becomePushed() {
            int all = depth();
            int others = all - snow[PUSHED];
            snow[FALLEN] = 0;
            snow[MADE] = 0;
            snow[PUSHED] = all;
            snow[WORN] = 0;
            return others;
        }

        private int take(int kind, int most) {
            if (kind < 0 || kind >= snow.length) {
                return 0;
            }
            int taken = Math.min(most, snow[kind]);
            snow[kind] -= taken;
            return taken;
        }

        /** What the PRICE tells of this CELL: missing counts for it; too much against it, at a PRICE above 0. */
        long priceTells() {
            long missingHere = (long) want - depth();
            if (missingHere < 0 && price <= 0) {
                return 0;
            }
            return missingHere * price;
        }
    }

    private static final class Link {
        final Cell a;
        final Cell b;
        final int length;
        /** What the Carrier carries from a to b; below 0 what it carries from b to a. */
        int carried;

        Link(Cell a, Cell b, int length) {
            this.a = a;
            this.b = b;
            this.length = length;
        }

        boolean takesPrices() {
            return Math.abs(a.price - b.price) <= length;
        }

        Cell other(Cell one) {
            return one == a ? b : a;
        }

        /** How much goes from one end towards the other by now; below 0 if it comes from there. */
        int carriedFrom(Cell one) {
            return one == a ? carried : -carried;
        }

        void carryFrom(Cell one, int hundredths) {
            carried += one == a ? hundredths : -hundredths;
        }
    }

    /**
     * Finds LEAST by cheapest paths: again and again the cheapest way from any CELL with some to spare
     * to any CELL where some is missing, where carrying less against a LINK's flow gives its LENGTH back.
     */
    private static final class Carrier {
        private static final int MOST_PATHS = 1000000;
        private static final int UNREACHED = 1 << 30;
        // A way's cost counts so many times more than its LINKS: of ways that cost the same the one of fewest LINKS
        // is taken, which keeps the number of ways small whatever the amounts are.
        private static final int COST_WEIGHT = 64;

        static long leastSum(ArrayList<Cell> cells, ArrayList<Link> links) {
            prepare(cells, links);
            for (int k = 0; k < MOST_PATHS && anyMissing(cells); k++) {
                measure(cells, links);
                Cell nearest = nearestMissing(cells);
                if (nearest == null) {
                    return NONE;
                }
                carryTo(nearest, cells.size());
            }
            return sumCarried(links);
        }

        private static void prepare(ArrayList<Cell> cells, ArrayList<Link> links) {
            for (int k = 0; k < cells.size(); k++) {
                Cell one = cells.get(k);
                int over = one.depth() - one.want;
                one.spare = Math.max(over, 0);
                one.missing = Math.max(-over, 0);
            }
            for (int k = 0; k < links.size(); k++) {
                links.get(k).carried = 0;
            }
        }

        private static boolean anyMissing(ArrayList<Cell> cells) {
            for (int k = 0; k < cells.size(); k++) {
                if (cells.get(k).missing > 0) {
                    return true;
                }
            }
            return false;
        }

        /** Sets how far each CELL is from the nearest with some to spare: no cheapest way is longer than all CELLS. */
        private static void measure(ArrayList<Cell> cells, ArrayList<Link> links) {
            for (int k = 0; k < cells.size(); k++) {
                Cell one = cells.get(k);
                one.far = one.spare > 0 ? 0 : UNREACHED;
                one.via = null;
            }
            boolean nearer = true;
            for (int round = 0; round < cells.size() && nearer; round++) {
                nearer = false;
                for (int k = 0; k < links.size(); k++) {
                    Link one = links.get(k);
                    nearer |= brings(one, one.a);
                    nearer |= brings(one, one.b);
                }
            }
        }

        private static boolean brings(Link link, Cell from) {
            if (from.far == UNREACHED) {
                return false;
            }
            Cell to = link.other(from);
            int cost = link.carriedFrom(from) < 0 ? -link.length : link.length;
            int far = from.far + cost * COST_WEIGHT + 1;
            if (far >= to.far) {
                return false;
            }
            to.far = far;
            to.via = link;
            return true;
        }

        private static Cell nearestMissing(ArrayList<Cell> cells) {
            Cell nearest = null;
            for (int k = 0; k < cells.size(); k++) {
                Cell one = cells.get(k);
                boolean reached = one.missing > 0 && one.far != UNREACHED;
                if (reached && (nearest == null || one.far < nearest.far)) {
                    nearest = one;
                }
            }
            return nearest;
        }

        private static void carryTo(Cell target, int mostLinks) {
            int amount = target.missing;
            Cell at = target;
            for (int k = 0; k < mostLinks && at.via != null; k++) {
                Link link = at.via;
                at = link.other(at);
                int against = -link.carriedFrom(at);
                if (against > 0) {
                    amount = Math.min(amount, against);
                }
            }
            amount = Math.min(amount, at.spare);
            at.spare -= amount;
            target.missing -= amount;
            at = target;
            for (int k = 0; k < mostLinks && at.via != null; k++) {
                Link link = at.via;
                at = link.other(at);
                link.carryFrom(at, amount);
            }
        }

        private static long sumCarried(ArrayList<Link> links) {
            long sum = 0;
            for (int k = 0; k < links.size(); k++) {
                Link one = links.get(k);
                sum += (long) Math.abs(one.carried) * one.length;
            }
            return sum;
        }
    }

    /** Reads a RULE's text and writes its code, operands first. A reading method answers whether all was right. */
    private static final class RuleReader {
        int wrongByte;
        int named;
        private final int[] code = new int[MOST_BYTES];
        private int codeLength;
        private byte[] text = new byte[0];
        private int length;
        private int slopes;
        private int lifts;
        private int at;
        // The word, NUMBER or sign that is to be read next.
        private int start;
        private int kind;
        private int number;

        boolean takes(byte[] text, int length, int slopes, int lifts) {
            this.text = text;
            this.length = Math.min(length, text.length);
            this.slopes = slopes;
            this.lifts = lifts;
            at = 0;
            named = 0;
            codeLength = 0;
            wrongByte = NONE;
            advance();
            return readEither(0) && (kind == TEXT_END || fails());
        }

        int[] codeCopy() {
            return Arrays.copyOf(code, codeLength);
        }

        private boolean fails() {
            wrongByte = start;
            return false;
        }

        private boolean readEither(int nested) {
            boolean right = readBoth(nested);
            for (int k = 0; k < MOST_BYTES && right && kind == WORD_OR; k++) {
                advance();
                right = readBoth(nested);
                write(WORD_OR, 0, 0);
            }
            return right;
        }

        private boolean readBoth(int nested) {
            boolean right = readPart(nested);
            for (int k = 0; k < MOST_BYTES && right && kind == WORD_AND; k++) {
                advance();
                right = readPart(nested);
                write(WORD_AND, 0, 0);
            }
            return right;
        }

        private boolean readPart(int nested) {
            if (kind == WORD_NOT || kind == SIGN_OPENING) {
                return nested < MOST_NESTED ? readNested(nested + 1) : fails();
            }
            if (kind == WORD_OPEN || kind == WORD_LIFT) {
                return readNaming(kind);
            }
            boolean compares = kind == WORD_SNOW || kind == WORD_WIND || kind == WORD_HOUR || kind == WORD_WORN;
            return compares ? readComparing(kind) : fails();
        }

        private boolean readNested(int nested) {
            boolean negates = kind == WORD_NOT;
            advance();
            if (negates) {
                boolean right = readPart(nested);
                write(WORD_NOT, 0, 0);
                return right;
            }
            if (!readEither(nested)) {
                return false;
            }
            if (kind != SIGN_CLOSING) {
                return fails();
            }
            advance();
            return true;
        }

        private boolean readNaming(int word) {
            advance();
            int there = word == WORD_OPEN ? slopes : lifts;
            if (kind != NUMBER || number >= there) {
                return fails();
            }
            if (word == WORD_OPEN) {
                named |= 1 << number;
            }
            write(word, 0, number);
            advance();
            return true;
        }

        private boolean readComparing(int word) {
            advance();
            int sign = kind;
            if (sign != SIGN_LESS && sign != SIGN_MORE && sign != SIGN_EQUAL) {
                return fails();
            }
            advance();
            if (kind != NUMBER) {
                return fails();
            }
            write(word, sign, number);
            advance();
            return true;
        }

        private void write(int word, int sign, int number) {
            if (codeLength < code.length) {
                code[codeLength] = word << WORD_SHIFT | sign << SIGN_SHIFT | number;
                codeLength++;
            }
        }

        private void advance() {
            while (at < length && byteAt(at) == ' ') {
                at++;
            }
            start = at;
            if (at >= length) {
                kind = TEXT_END;
            } else if (isLetter(byteAt(at))) {
                while (at < length && isLetter(byteAt(at))) {
                    at++;
                }
                kind = kindOfWord();
            } else if (isDigit(byteAt(at))) {
                advanceNumber();
            } else {
                kind = kindOfSign(byteAt(at));
                at++;
            }
        }

        private void advanceNumber() {
            number = 0;
            for (; at < length && isDigit(byteAt(at)); at++) {
                if (at - start < MOST_DIGITS) {
                    number = number * 10 + byteAt(at) - '0';
                }
            }
            kind = at - start <= MOST_DIGITS ? NUMBER : WRONG;
        }

        private int kindOfWord() {
            if (spells("snow")) {
                return WORD_SNOW;
            }
            if (spells("wind")) {
                return WORD_WIND;
            }
            if (spells("hour")) {
                return WORD_HOUR;
            }
            if (spells("worn")) {
                return WORD_WORN;
            }
            if (spells("open")) {
                return WORD_OPEN;
            }
            if (spells("lift")) {
                return WORD_LIFT;
            }
            if (spells("not")) {
                return WORD_NOT;
            }
            if (spells("and")) {
                return WORD_AND;
            }
            return spells("or") ? WORD_OR : WRONG;
        }

        private boolean spells(String word) {
            if (at - start != word.length()) {
                return false;
            }
            for (int k = 0; k < word.length(); k++) {
                if (byteAt(start + k) != word.charAt(k)) {
                    return false;
                }
            }
            return true;
        }

        private static int kindOfSign(int sign) {
            switch (sign) {
                case '<':
                    return SIGN_LESS;
                case '>':
                    return SIGN_MORE;
                case '=':
                    return SIGN_EQUAL;
                case '(':
                    return SIGN_OPENING;
                case ')':
                    return SIGN_CLOSING;
                default:
                    return WRONG;
            }
        }

        private int byteAt(int k) {
            return k >= 0 && k < text.length ? text[k] & 255 : 0;
        }

        private static boolean isLetter(int sign) {
            return sign >= 'a' && sign <= 'z';
        }

        private static boolean isDigit(int sign) {
            return sign >= '0' && sign <= '9';
        }
    }
}
