import java.util.NoSuchElementException;

/**
 * The sentences behind section 4: of several exceptions the one told first is thrown, and a call that throws, as one that
 * answers NONE or false, or only asks, changes nothing. Each is made on one of two hills that are alike; then both are
 * asked for all there is, or read their TAPES, go on for some minutes, are built on and asked then, and must answer the
 * same. As an object is good for 512 calls, all this is done on new hills for each PART of what can be asked.
 */
public final class RefusedTest {
    private static final int LOWEST = Integer.MIN_VALUE;
    private static final int HIGHEST = Integer.MAX_VALUE;
    private static final Class<? extends RuntimeException> PLACE = IndexOutOfBoundsException.class;
    private static final Class<? extends RuntimeException> NUMBER = IllegalArgumentException.class;
    private static final Class<? extends RuntimeException> FULL = UnsupportedOperationException.class;
    private static final Class<? extends RuntimeException> WHAT = NoSuchElementException.class;
    private static final Class<? extends RuntimeException> STATE = IllegalStateException.class;

    private static final int PARTS = 6;

    interface Call {
        long of(SkiHill x);
    }

    interface Made {
        SkiHill hill();
    }

    public static void main(String[] args) {
        Check.sentence("Of several exceptions the one told first is thrown; a call that throws changes nothing");
        refusedAnyway(false);
        refusedAnyway(true);
        refusedInOrder(false);
        refusedInOrder(true);
        refusedWhenFull();
        Check.sentence("a call that throws changes nothing but what is said, and the TAPE, where it is used up");
        refusedRules(false);
        refusedRules(true);
        Check.sentence("false, and nothing happens, if it has fewer, or n is below 0.");
        quiet(false);
        quiet(true);
        Check.sentence("Nothing is carried by asking.");
        asks(false);
        asks(true);
        Check.close();
    }

    /** A hill in the midst of a day, full to each limit or with room left, and a RULE's text on the TAPE. */
    private static SkiHill hill(boolean full) {
        SkiHill x = new SkiHill();
        for (int k = 0; k < (full ? 8 : 3); k++) {
            x.lift(k % 3, (k + 1) % 3, 4, 1 + k, 30 + k);
        }
        for (int k = 0; k < (full ? 10 : 4); k++) {
            x.slope((k + 1) % 3, k % 3, 2 + k, k, full ? 4 : 2);
        }
        for (int k = 0; k < (full ? 60 : 9); k++) {
            x.group(1 + k % 4, k % 10, k % 3);
        }
        int cells = (int) x.count(2);
        for (int k = 0; k < (full ? 80 : 7); k++) {
            x.link(k % cells, (k + 1 + k / cells) % cells, 5 + k);
        }
        for (int k = 0; k < cells; k += full ? 4 : 1) {
            x.snow(k, k % 2 == 0 ^ k % 8 == 0, 400 + 10 * k);
            x.want(k, 395 + 11 * k % 40);
            x.price(k, k % 3);
        }
        x.push(1);
        Check.rule(x, 1, "worn < 4 and not open 2");
        Check.rule(x, 2, "wind > 20 or hour = 9");
        Check.rule(x, 3, "lift 1 and (open 1 or open 2)");
        x.wind(12);
        x.stop(2, true);
        x.step(8);
        x.melt(0, 30);
        Check.text(x, "snow < 7 and not open 2 or open 1");
        return x;
    }

    /** A part of all that can be asked. */
    private static void tell(SkiHill x, int part, boolean faults, StringBuilder told) {
        for (int what = -1 + part; what <= 12; what += PARTS) {
            told.append(" count ").append(x.count(what)).append(" people ").append(x.people(what));
        }
        for (int k = part, all = (int) x.count(0); k < all; k += PARTS) {
            told.append(" lift ").append(x.runs(k));
            for (int n = 0; x.row(k, n) != SkiHill.NONE; n++) {
                told.append(' ').append(x.row(k, n));
            }
        }
        for (int k = part, all = (int) x.count(1); k < all; k += PARTS) {
            told.append(" open ").append(x.open(k));
        }
        for (int k = part, all = (int) x.count(3); k < all; k += PARTS) {
            for (int what = 0; what <= 4; what++) {
                told.append(" look ").append(x.look(k, what));
            }
        }
        for (int k = part, all = (int) x.count(2); k < all; k += PARTS) {
            for (int what = 0; what <= 7; what++) {
                told.append(" cell ").append(x.cell(k, what));
            }
        }
        told.append(" least ").append(x.least()).append(" judge ").append(told(x, SkiHill::judge));
        if (faults) {
            told.append(" fault ").append(x.fault(0)).append(' ').append(x.fault(1));
        }
    }

    private static String told(SkiHill x, Call call) {
        try {
            return Long.toString(call.of(x));
        } catch (RuntimeException e) {
            return e.getClass().getSimpleName();
        }
    }

    /** The TAPE is read, minutes go by, and what has room left is built on. */
    private static void goOn(SkiHill x, StringBuilder told) {
        told.append(" rule ").append(told(x, y -> y.rule(0))).append(' ').append(x.fault(0)).append(' ').append(x.open(0));
        told.append(" stops ").append(told(x, y -> y.stop(0, false) ? 1 : 0)).append(told(x, y -> y.stop(2, false) ? 1 : 0));
        x.step(9);
        told.append(" new ").append(told(x, y -> y.lift(0, 1, 2, 3, 4))).append(' ').append(told(x, y -> y.slope(0, 1, 2, 3, 1)));
        told.append(' ').append(told(x, y -> y.group(1, 2, 0))).append(' ').append(told(x, y -> y.link(0, 2, 9)));
        for (int slope = 0; slope < 4; slope++) {
            int one = slope;
            told.append(" had ").append(told(x, y -> y.unrule(one) ? 1 : 0));
        }
        x.step(7);
    }

    private static void same(String call, boolean faults, Made changed, Made due) {
        for (int part = 0; part < 2 * PARTS; part++) {
            StringBuilder got = new StringBuilder();
            StringBuilder want = new StringBuilder();
            SkiHill x = changed.hill();
            SkiHill y = due.hill();
            if (part >= PARTS) {
                goOn(x, got);
                goOn(y, want);
            }
            tell(x, part % PARTS, faults, got);
            tell(y, part % PARTS, faults, want);
            int at = 0;
            while (at < want.length() && at < got.length() && want.charAt(at) == got.charAt(at)) {
                at++;
            }
            String beside = " changed something, first told at " + got.substring(Math.max(0, at - 30), Math.min(got.length(), at + 10));
            Check.due(call + beside, got.toString().equals(want.toString()), true);
        }
    }

    private static void refused(boolean full, String call, Class<? extends RuntimeException> want, Call made) {
        same(call, true, () -> {
            SkiHill x = hill(full);
            Check.thrown(call, want, () -> made.of(x));
            return x;
        }, () -> hill(full));
    }

    /** What is refused for one reason alone. */
    private static void refusedAnyway(boolean full) {
        int cells = full ? 40 : 8;
        for (int none : new int[] {-1, LOWEST, HIGHEST}) {
            int lift = none == -1 ? none : full ? 8 : 3;
            int slope = none == -1 ? none : full ? 10 : 4;
            int cell = none == LOWEST ? cells : none;
            int group = none == LOWEST ? full ? 60 : 9 : none;
            refused(full, "unrule", PLACE, x -> x.unrule(slope) ? 1 : 0);
            refused(full, "open", PLACE, x -> x.open(slope) ? 1 : 0);
            refused(full, "runs", PLACE, x -> x.runs(lift) ? 1 : 0);
            refused(full, "stop", PLACE, x -> x.stop(lift, true) ? 1 : 0);
            refused(full, "go on", PLACE, x -> x.stop(lift, false) ? 1 : 0);
            refused(full, "look", PLACE, x -> x.look(group, 0));
            refused(full, "row", PLACE, x -> x.row(lift, 0));
            refused(full, "snow", PLACE, x -> x.snow(cell, true, 5));
            refused(full, "melt", PLACE, x -> x.melt(cell, 5));
            refused(full, "push", PLACE, x -> x.push(cell));
            refused(full, "cell", PLACE, x -> x.cell(cell, 0));
            refused(full, "want", PLACE, x -> want(x, cell, 5));
            refused(full, "price", PLACE, x -> price(x, cell, 5));
            refused(full, "wind", NUMBER, x -> wind(x, none));
            refused(full, "step", NUMBER, x -> x.step(none));
            refused(full, "snow made", NUMBER, x -> x.snow(0, true, none));
            refused(full, "snow fallen", NUMBER, x -> x.snow(0, false, none));
            refused(full, "melt", NUMBER, x -> x.melt(0, none));
            refused(full, "want", NUMBER, x -> want(x, 0, none));
            refused(full, "look", WHAT, x -> x.look(0, none));
            refused(full, "cell", WHAT, x -> x.cell(0, none));
        }
        refused(full, "wind", NUMBER, x -> wind(x, 301));
        refused(full, "step", NUMBER, x -> x.step(601));
        refused(full, "snow", NUMBER, x -> x.snow(0, true, 100001));
        refused(full, "melt", NUMBER, x -> x.melt(0, 1000001));
        refused(full, "want", NUMBER, x -> want(x, 0, 1000001));
        refused(full, "price", NUMBER, x -> price(x, 0, -10001));
        refused(full, "price", NUMBER, x -> price(x, 0, 10001));
        refused(full, "look", WHAT, x -> x.look(0, 5));
        refused(full, "cell", WHAT, x -> x.cell(0, 8));
        same("judge", true, () -> {
            SkiHill x = apart(full);
            Check.thrown("judge", STATE, x::judge);
            return x;
        }, () -> apart(full));
    }

    private static SkiHill apart(boolean full) {
        SkiHill x = hill(full);
        x.price(0, 10000);
        return x;
    }

    private static long wind(SkiHill x, int v) {
        x.wind(v);
        return 0;
    }

    private static long want(SkiHill x, int cell, int hundredths) {
        x.want(cell, hundredths);
        return 0;
    }

    private static long price(SkiHill x, int cell, int v) {
        x.price(cell, v);
        return 0;
    }

    /** What several reasons refuse, of a full hill one more: each is put with all that are told behind it. */
    private static void refusedInOrder(boolean full) {
        for (int[] places : new int[][] {{-1, 0}, {0, -1}, {10, 0}, {0, 10}, {10, -1}}) {
            refused(full, "lift: places", PLACE, x -> x.lift(places[0], places[1], 0, 0, -1));
            refused(full, "lift: places alone", PLACE, x -> x.lift(places[0], places[1], 1, 1, 1));
            refused(full, "slope: places", PLACE, x -> x.slope(places[0], places[1], 0, -1, 0));
            refused(full, "slope: places alone", PLACE, x -> x.slope(places[0], places[1], 1, 1, 4));
            int cells = full ? 40 : 8;
            refused(full, "link: cells", PLACE, x -> x.link(places[0] == 10 ? cells : places[0], places[1] == 10 ? cells : places[1], 0));
            refused(full, "link: cells alone", PLACE, x -> x.link(places[0] == 10 ? cells : places[0], places[1] == 10 ? cells : places[1], 1));
        }
        refused(full, "link: no cell, twice", PLACE, x -> x.link(-1, -1, 0));
        refused(full, "link: one cell", NUMBER, x -> x.link(1, 1, 5));
        refused(full, "group: place", PLACE, x -> x.group(0, -1, 10));
        refused(full, "group: place alone", PLACE, x -> x.group(1, 1, -1));
        for (int[] bad : new int[][] {{0, 1, 0}, {21, 1, 0}, {1, 0, 0}, {1, 31, 0}, {1, 1, -1}, {1, 1, 201}}) {
            refused(full, "lift: numbers", NUMBER, x -> x.lift(0, 1, bad[0], bad[1], bad[2]));
        }
        for (int[] bad : new int[][] {{0, 1, 1}, {21, 1, 1}, {1, -1, 1}, {1, 10, 1}, {1, 1, 0}, {1, 1, 5}}) {
            refused(full, "slope: numbers", NUMBER, x -> x.slope(0, 1, bad[0], bad[1], bad[2]));
        }
        for (int[] bad : new int[][] {{0, 1}, {5, 1}, {1, -1}, {1, 10}}) {
            refused(full, "group: numbers", NUMBER, x -> x.group(bad[0], bad[1], 0));
        }
        for (int bad : new int[] {0, 101, LOWEST, HIGHEST}) {
            refused(full, "link: length", NUMBER, x -> x.link(0, 1, bad));
        }
        int none = full ? 40 : 8;
        refused(full, "snow: cell ahead of number", PLACE, x -> x.snow(none, true, -1));
        refused(full, "melt: cell ahead of number", PLACE, x -> x.melt(none, -1));
        refused(full, "want: cell ahead of number", PLACE, x -> want(x, none, -1));
        refused(full, "price: cell ahead of number", PLACE, x -> price(x, none, 10001));
        refused(full, "cell: cell ahead of what", PLACE, x -> x.cell(none, 8));
        refused(full, "look: group ahead of what", PLACE, x -> x.look(60, 5));
    }

    private static void refusedWhenFull() {
        refused(true, "lift", FULL, x -> x.lift(0, 1, 1, 1, 1));
        refused(true, "group", FULL, x -> x.group(1, 1, 0));
        refused(true, "link", FULL, x -> x.link(0, 1, 1));
        for (int cells = 1; cells <= 4; cells++) {
            int more = cells;
            refused(true, "slope", FULL, x -> x.slope(0, 1, 1, 1, more));
        }
    }

    /** Here the TAPE alone is used up, so the other hill's is cut to nothing; what fault() tells of is held against the due. */
    private static void refusedRule(boolean full, int slope, String text, Class<? extends RuntimeException> want, int wrong, int circle) {
        same("rule(" + slope + ") of " + text, want == PLACE, () -> {
            SkiHill x = hill(full);
            x.end(0);
            Check.text(x, text);
            Check.thrown("rule(" + slope + ") of " + text, want, () -> x.rule(slope));
            Check.due("fault(0) of " + text, x.fault(0), wrong);
            Check.due("fault(1) of " + text, x.fault(1), circle);
            return x;
        }, () -> {
            SkiHill y = hill(full);
            y.end(0);
            return y;
        });
    }

    private static void refusedRules(boolean full) {
        int slopes = full ? 10 : 4;
        for (int none : new int[] {-1, slopes, LOWEST, HIGHEST}) {
            refusedRule(full, none, "wind = 1", PLACE, SkiHill.NONE, 0);
            refusedRule(full, none, "wrong", PLACE, SkiHill.NONE, 0);
            refusedRule(full, none, "open 1 or open 2", PLACE, SkiHill.NONE, 0);
            refusedRule(full, none, "", PLACE, SkiHill.NONE, 0);
        }
        for (int slope = 0; slope < 4; slope++) {
            refusedRule(full, slope, "", NUMBER, 0, 0);
            refusedRule(full, slope, "wind = 1 or", NUMBER, 11, 0);
            refusedRule(full, slope, "open 0 and open 1 and open 2 and !", NUMBER, 33, 0);
            refusedRule(full, slope, "open " + slope, STATE, SkiHill.NONE, 1 << slope);
        }
        // SLOPE 3 names 1 and 2, SLOPE 1 names 2.
        refusedRule(full, 1, "open 3", STATE, SkiHill.NONE, 1 << 1 | 1 << 3);
        refusedRule(full, 2, "open 3", STATE, SkiHill.NONE, 1 << 1 | 1 << 2 | 1 << 3);
        refusedRule(full, 2, "wind = 1 or open 1", STATE, SkiHill.NONE, 1 << 1 | 1 << 2);
    }

    private static void nothing(boolean full, String call, long due, Call made) {
        same(call, true, () -> {
            SkiHill x = hill(full);
            Check.due(call, made.of(x), due);
            return x;
        }, () -> hill(full));
    }

    private static void quiet(boolean full) {
        nothing(full, "end(34) of 33", 0, x -> x.end(34) ? 1 : 0);
        nothing(full, "end(33) of 33", 1, x -> x.end(33) ? 1 : 0);
        for (int none : new int[] {-1, LOWEST, HIGHEST}) {
            nothing(full, "end(" + none + ")", 0, x -> x.end(none) ? 1 : 0);
            nothing(full, "fault(" + none + ")", SkiHill.NONE, x -> x.fault(none));
            nothing(full, "people(" + none + ")", SkiHill.NONE, x -> x.people(none));
            nothing(full, "count(" + none + ")", SkiHill.NONE, x -> x.count(none));
            nothing(full, "row(0, " + none + ")", SkiHill.NONE, x -> x.row(0, none));
        }
        nothing(full, "step(0)", 8, x -> x.step(0));
        nothing(full, "snow of none", 440, x -> x.snow(4, false, 0));
        nothing(full, "melt of none", 0, x -> x.melt(4, 0));
        nothing(full, "stop as it was", 0, x -> x.stop(2, true) ? 1 : 0);
        nothing(full, "run as it did", 0, x -> x.stop(1, false) ? 1 : 0);
        nothing(full, "unrule of none", 0, x -> x.unrule(0) ? 1 : 0);
        // A full TAPE takes nothing more.
        same("feed to 413", true, () -> {
            SkiHill x = fullTape(full);
            Check.due("feed to 413", x.feed(0, 0, 0, 0, 0), SkiHill.NONE);
            return x;
        }, () -> fullTape(full));
    }

    private static SkiHill fullTape(boolean full) {
        SkiHill x = hill(full);
        for (int k = 0; k < 18; k++) {
            x.feed(0x20202020, 0x20202020, 0x20202020, 0x20202020, 0x20202020);
        }
        return x;
    }

    private static void asks(boolean full) {
        for (int part = 0; part < PARTS; part++) {
            int asked = part;
            same("asked for part " + part, true, () -> {
                SkiHill x = hill(full);
                tell(x, asked, true, new StringBuilder());
                return x;
            }, () -> hill(full));
        }
    }
}
