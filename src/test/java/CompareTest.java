import java.util.Random;
import java.util.function.LongSupplier;

/** Runs of 512 calls, made by a chance that is the same each time, on a SkiHill and a PlainHill: each answer must be the same. */
public final class CompareTest {
    private static final int RUNS = 700;
    private static final int CALLS = 512;
    private static final String[] PIECES = {"snow", "wind", "hour", "worn", "open", "lift", "not", "and", "or", "<", ">", "=",
        "(", ")", " ", "  ", "0", "1", "2", "9", "10", "000003", "1234567", "x", "Snow", "nott", "{", "\t", "\u00e9", "\u0000"};

    private final Random random;
    private final SkiHill x = new SkiHill();
    private final PlainHill y = new PlainHill();
    private final boolean great;
    private final StringBuilder calls = new StringBuilder();
    private int callsMade;
    private String differs;

    private CompareTest(int run) {
        random = new Random(run);
        great = run % 3 == 0;
    }

    public static void main(String[] args) {
        for (int run = 0; run < RUNS; run++) {
            CompareTest one = new CompareTest(run);
            one.build();
            while (one.callsMade < CALLS && one.differs == null) {
                one.next();
            }
            if (one.differs != null) {
                System.out.println("run " + run + ": " + one.differs + " behind" + one.calls);
            }
            Check.due("run " + run, one.differs == null, true);
            if (one.differs != null) {
                break;
            }
        }
        Check.close();
    }

    /** What a call answers; an exception that no throw statement of the two hills has thrown is told apart. */
    private static String told(LongSupplier call) {
        try {
            return Long.toString(call.getAsLong());
        } catch (RuntimeException e) {
            StackTraceElement[] trace = e.getStackTrace();
            boolean own = trace.length > 0 && trace[0].getClassName().matches("(SkiHill|PlainHill).*");
            return (own ? "throws." : "the machine throws.") + e.getClass().getSimpleName();
        }
    }

    /** Makes a call on both hills and keeps the first answer that differs; nothing is asked of a hill behind its 512th call. */
    private void same(String call, LongSupplier first, LongSupplier second) {
        if (callsMade == CALLS || differs != null) {
            return;
        }
        callsMade++;
        String got = told(first);
        String want = told(second);
        calls.append("\n  ").append(call).append(": ").append(got);
        if (!got.equals(want)) {
            differs = call + " answered " + got + ", due is " + want;
        }
    }

    /** Mostly a number from least to most; now and then one beside them, or far off. */
    private int pick(int least, int most) {
        int dice = random.nextInt(60);
        if (dice == 0) {
            return least - 1;
        }
        if (dice == 1) {
            return most + 1;
        }
        if (dice == 2) {
            return random.nextInt();
        }
        return least + random.nextInt(Math.max(1, most - least + 1));
    }

    private int place() {
        return pick(0, great ? 9 : 2);
    }

    private int lift() {
        return pick(0, (int) y.count(0) - 1);
    }

    private int slope() {
        return pick(0, (int) y.count(1) - 1);
    }

    private int cell() {
        return pick(0, (int) y.count(2) - 1);
    }

    private void build() {
        for (int k = random.nextInt(9); k > 0; k--) {
            newLift();
        }
        for (int k = random.nextInt(11); k > 0; k--) {
            newSlope();
        }
        for (int k = random.nextInt(great ? 61 : 12); k > 0; k--) {
            newGroup();
        }
        for (int k = random.nextInt(great ? 81 : 20); k > 0; k--) {
            newLink();
        }
    }

    private void newLift() {
        int a = place();
        int b = place();
        int c = pick(1, random.nextBoolean() ? 6 : 20);
        int d = pick(1, random.nextBoolean() ? 4 : 30);
        int e = pick(0, 200);
        same("lift(" + a + ", " + b + ", " + c + ", " + d + ", " + e + ")", () -> x.lift(a, b, c, d, e), () -> y.lift(a, b, c, d, e));
    }

    private void newSlope() {
        int a = place();
        int b = place();
        int c = pick(1, random.nextBoolean() ? 4 : 20);
        int d = pick(0, 9);
        int e = pick(1, 4);
        same("slope(" + a + ", " + b + ", " + c + ", " + d + ", " + e + ")", () -> x.slope(a, b, c, d, e), () -> y.slope(a, b, c, d, e));
    }

    private void newGroup() {
        int a = pick(1, 4);
        int b = pick(0, 9);
        int c = place();
        same("group(" + a + ", " + b + ", " + c + ")", () -> x.group(a, b, c), () -> y.group(a, b, c));
    }

    private void newLink() {
        int a = cell();
        int b = cell();
        int c = pick(1, random.nextBoolean() ? 5 : 100);
        same("link(" + a + ", " + b + ", " + c + ")", () -> x.link(a, b, c), () -> y.link(a, b, c));
    }

    private void next() {
        switch (random.nextInt(12)) {
            case 0:
                buildMore();
                return;
            case 1:
            case 2:
                newRule();
                return;
            case 3:
                asksSlopes();
                return;
            case 4:
            case 5:
                goesOn();
                return;
            case 6:
            case 7:
                asksGroups();
                return;
            case 8:
                snows();
                return;
            case 9:
                asksCells();
                return;
            case 10:
                wants();
                return;
            default:
                asksSums();
        }
    }

    private void buildMore() {
        switch (random.nextInt(4)) {
            case 0:
                newLift();
                return;
            case 1:
                newSlope();
                return;
            case 2:
                newGroup();
                return;
            default:
                newLink();
        }
    }

    private void newRule() {
        if (random.nextInt(4) == 0) {
            int s = slope();
            same("unrule(" + s + ")", () -> x.unrule(s) ? 1 : 0, () -> y.unrule(s) ? 1 : 0);
            return;
        }
        String text = random.nextInt(8) == 0 ? pieces() : damaged(rule(random.nextInt(5)));
        if (text.length() > 400) {
            text = text.substring(0, 400);
        }
        for (int k = 0; k < text.length(); k += 20) {
            int[] five = new int[5];
            for (int n = 0; n < 20; n++) {
                five[n / 4] = five[n / 4] << 8 | (k + n < text.length() ? text.charAt(k + n) : random.nextInt(256));
            }
            same("feed", () -> x.feed(five[0], five[1], five[2], five[3], five[4]), () -> y.feed(five[0], five[1], five[2], five[3], five[4]));
        }
        int n = random.nextInt(40) == 0 ? pick(0, 400) : text.length();
        same("end(" + n + ")", () -> x.end(n) ? 1 : 0, () -> y.end(n) ? 1 : 0);
        int s = slope();
        same("rule(" + s + ") of " + text, () -> x.rule(s), () -> y.rule(s));
        int what = pick(0, 1);
        same("fault(" + what + ")", () -> x.fault(what), () -> y.fault(what));
    }

    private String pieces() {
        StringBuilder text = new StringBuilder();
        for (int k = random.nextInt(30); k > 0; k--) {
            text.append(PIECES[random.nextInt(PIECES.length)]);
        }
        return text.toString();
    }

    private String damaged(String text) {
        if (random.nextInt(4) != 0 || text.isEmpty()) {
            return text;
        }
        int at = random.nextInt(text.length());
        String piece = PIECES[random.nextInt(PIECES.length)];
        return text.substring(0, at) + piece + text.substring(random.nextBoolean() ? at : at + 1);
    }

    private String blanks() {
        return " ".repeat(random.nextInt(6) == 0 ? random.nextInt(4) : 1);
    }

    private String rule(int deep) {
        switch (deep <= 0 ? 3 + random.nextInt(6) : random.nextInt(9)) {
            case 0:
                return rule(deep - 1) + blanks() + "and" + blanks() + rule(deep - 1);
            case 1:
                return rule(deep - 1) + blanks() + "or" + blanks() + rule(deep - 2);
            case 2:
                int times = random.nextInt(5) == 0 ? random.nextInt(23) : 1;
                boolean nots = random.nextBoolean();
                return nots ? "not ".repeat(times) + rule(deep - 1) : "(".repeat(times) + rule(deep - 1) + ")".repeat(times);
            case 3:
                return "open " + (random.nextInt(9) == 0 ? 11 : Math.max(0, slope() & 15));
            case 4:
                return "lift" + blanks() + (lift() & 7);
            case 5:
                return "snow" + blanks() + "<=>".charAt(random.nextInt(3)) + blanks() + random.nextInt(20);
            case 6:
                return "wind" + "<=>".charAt(random.nextInt(3)) + random.nextInt(300);
            case 7:
                return "hour " + "<=>".charAt(random.nextInt(3)) + blanks() + random.nextInt(great ? 100 : 4);
            default:
                return "worn" + blanks() + "<=>".charAt(random.nextInt(3)) + " " + random.nextInt(5);
        }
    }

    private void asksSlopes() {
        int s = slope();
        int l = lift();
        switch (random.nextInt(4)) {
            case 0:
                int v = pick(0, random.nextBoolean() ? 300 : 60);
                same("wind(" + v + ")", () -> {
                    x.wind(v);
                    return 0;
                }, () -> {
                    y.wind(v);
                    return 0;
                });
                return;
            case 1:
                boolean on = random.nextInt(3) == 0;
                same("stop(" + l + ", " + on + ")", () -> x.stop(l, on) ? 1 : 0, () -> y.stop(l, on) ? 1 : 0);
                return;
            case 2:
                same("runs(" + l + ")", () -> x.runs(l) ? 1 : 0, () -> y.runs(l) ? 1 : 0);
                return;
            default:
                same("open(" + s + ")", () -> x.open(s) ? 1 : 0, () -> y.open(s) ? 1 : 0);
        }
    }

    private void goesOn() {
        int minutes = random.nextInt(60) == 0 ? pick(0, 600) : pick(0, random.nextBoolean() ? 2 : 12);
        same("step(" + minutes + ")", () -> x.step(minutes), () -> y.step(minutes));
    }

    private void asksGroups() {
        int g = pick(0, (int) y.count(3) - 1);
        int l = lift();
        int k = pick(0, 6);
        int what = pick(0, 4);
        switch (random.nextInt(4)) {
            case 0:
                same("row(" + l + ", " + k + ")", () -> x.row(l, k), () -> y.row(l, k));
                return;
            case 1:
                int who = pick(0, 3);
                same("people(" + who + ")", () -> x.people(who), () -> y.people(who));
                return;
            default:
                same("look(" + g + ", " + what + ")", () -> x.look(g, what), () -> y.look(g, what));
        }
    }

    private void snows() {
        int c = cell();
        boolean made = random.nextBoolean();
        int n = pick(0, great ? 100000 : 900);
        switch (random.nextInt(4)) {
            case 0:
                int most = random.nextInt(5) == 0 ? pick(0, 1000000) : n;
                same("melt(" + c + ", " + most + ")", () -> x.melt(c, most), () -> y.melt(c, most));
                return;
            case 1:
                same("push(" + c + ")", () -> x.push(c), () -> y.push(c));
                return;
            default:
                same("snow(" + c + ", " + made + ", " + n + ")", () -> x.snow(c, made, n), () -> y.snow(c, made, n));
        }
    }

    private void asksCells() {
        int c = cell();
        int what = pick(0, 7);
        same("cell(" + c + ", " + what + ")", () -> x.cell(c, what), () -> y.cell(c, what));
    }

    private void wants() {
        int c = cell();
        if (random.nextInt(3) == 0) {
            int v = random.nextInt(40) == 0 ? pick(-10000, 10000) : pick(-3, 40);
            same("price(" + c + ", " + v + ")", () -> {
                x.price(c, v);
                return 0;
            }, () -> {
                y.price(c, v);
                return 0;
            });
            return;
        }
        int n = pick(0, great ? 60000 : 700);
        same("want(" + c + ", " + n + ")", () -> {
            x.want(c, n);
            return 0;
        }, () -> {
            y.want(c, n);
            return 0;
        });
    }

    private void asksSums() {
        int what = pick(0, 11);
        switch (random.nextInt(3)) {
            case 0:
                same("least()", x::least, y::least);
                return;
            case 1:
                same("judge()", x::judge, y::judge);
                return;
            default:
                same("count(" + what + ")", () -> x.count(what), () -> y.count(what));
        }
    }
}
