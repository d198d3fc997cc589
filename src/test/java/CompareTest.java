import java.util.Random;
import java.util.function.LongSupplier;

/** Runs of 512 calls, made by a chance that is the same each time, on a SkiHill and a PlainHill: each answer must be the same. */
public final class CompareTest {
    private static final int RUNS = 500;
    private static final int CALLS = 512;
    private static final String[] PIECES = {"snow", "wind", "hour", "worn", "open", "lift", "not", "and", "or", "<", ">", "=",
        "(", ")", " ", "  ", "0", "1", "2", "9", "10", "000003", "1234567", "x", "Snow", "nott", "{", "\t", "\u00e9", "\u0000"};

    private final Random random;
    private final SkiHill x = new SkiHill();
    private final PlainHill y = new PlainHill();
    private final boolean great;
    private final StringBuilder calls = new StringBuilder();

    private CompareTest(int run) {
        random = new Random(run);
        great = run % 3 == 0;
    }

    public static void main(String[] args) {
        for (int run = 0; run < RUNS; run++) {
            CompareTest one = new CompareTest(run);
            one.build();
            String differs = null;
            for (int k = 0; k < CALLS && differs == null; k++) {
                differs = one.next();
            }
            if (differs != null) {
                System.out.println("run " + run + ": " + differs + " behind" + one.calls);
            }
            Check.due("run " + run, differs == null, true);
            if (differs != null) {
                break;
            }
        }
        Check.close();
    }

    private static String told(LongSupplier call) {
        try {
            return Long.toString(call.getAsLong());
        } catch (RuntimeException e) {
            return "throws." + e.getClass().getSimpleName();
        }
    }

    private String same(String call, LongSupplier first, LongSupplier second) {
        String got = told(first);
        String want = told(second);
        if (calls.length() < 60000) {
            calls.append("\n  ").append(call).append(": ").append(got);
        }
        return got.equals(want) ? null : call + " answered " + got + ", due is " + want;
    }

    /** Mostly a number from least to most; now and then one beside them, or far off. */
    private int pick(int least, int most) {
        int dice = random.nextInt(60);
        if (dice == 0) {
            return least - 1;
        }
        if (dice == 1) {
            return most + 1;
        }
        if (dice == 2) {
            return random.nextInt();
        }
        return least + random.nextInt(Math.max(1, most - least + 1));
    }

    private int place() {
        return pick(0, great ? 9 : 2);
    }

    private int lift() {
        return pick(0, (int) y.count(0) - 1);
    }

    private int slope() {
        return pick(0, (int) y.count(1) - 1);
    }

    private int cell() {
        return pick(0, (int) y.count(2) - 1);
    }

    private void build() {
        for (int k = random.nextInt(9); k > 0; k--) {
            newLift();
        }
        for (int k = random.nextInt(11); k > 0; k--) {
            newSlope();
        }
        for (int k = random.nextInt(great ? 61 : 12); k > 0; k--) {
            newGroup();
        }
        for (int k = random.nextInt(great ? 81 : 20); k > 0; k--) {
            newLink();
        }
    }

    private String newLift() {
        int a = place();
        int b = place();
        int c = pick(1, random.nextBoolean() ? 6 : 20);
        int d = pick(1, random.nextBoolean() ? 4 : 30);
        int e = pick(0, 200);
        return same("lift(" + a + ", " + b + ", " + c + ", " + d + ", " + e + ")", () -> x.lift(a, b, c, d, e), () -> y.lift(a, b, c, d, e));
    }

    private String newSlope() {
        int a = place();
        int b = place();
        int c = pick(1, random.nextBoolean() ? 4 : 20);
        int d = pick(0, 9);
        int e = pick(1, 4);
        return same("slope(" + a + ", " + b + ", " + c + ", " + d + ", " + e + ")", () -> x.slope(a, b, c, d, e), () -> y.slope(a, b, c, d, e));
    }

    private String newGroup() {
        int a = pick(1, 4);
        int b = pick(0, 9);
        int c = place();
        return same("group(" + a + ", " + b + ", " + c + ")", () -> x.group(a, b, c), () -> y.group(a, b, c));
    }

    private String newLink() {
        int a = cell();
        int b = cell();
        int c = pick(1, random.nextBoolean() ? 5 : 100);
        return same("link(" + a + ", " + b + ", " + c + ")", () -> x.link(a, b, c), () -> y.link(a, b, c));
    }

    private String next() {
        switch (random.nextInt(12)) {
            case 0:
                return buildMore();
            case 1:
            case 2:
                return newRule();
            case 3:
                return asksSlopes();
            case 4:
            case 5:
                return goesOn();
            case 6:
            case 7:
                return asksGroups();
            case 8:
                return snows();
            case 9:
                return asksCells();
            case 10:
                return wants();
            default:
                return asksSums();
        }
    }

    private String buildMore() {
        switch (random.nextInt(4)) {
            case 0:
                return newLift();
            case 1:
                return newSlope();
            case 2:
                return newGroup();
            default:
                return newLink();
        }
    }

    private String newRule() {
        if (random.nextInt(4) == 0) {
            int s = slope();
            return same("unrule(" + s + ")", () -> x.unrule(s) ? 1 : 0, () -> y.unrule(s) ? 1 : 0);
        }
        String text = random.nextInt(8) == 0 ? pieces() : damaged(rule(random.nextInt(5)));
        if (text.length() > 400) {
            text = text.substring(0, 400);
        }
        for (int k = 0; k < text.length(); k += 20) {
            int[] five = new int[5];
            for (int n = 0; n < 20; n++) {
                five[n / 4] = five[n / 4] << 8 | (k + n < text.length() ? text.charAt(k + n) : random.nextInt(256));
            }
            String differs = same("feed", () -> x.feed(five[0], five[1], five[2], five[3], five[4]), () -> y.feed(five[0], five[1], five[2], five[3], five[4]));
            if (differs != null) {
                return differs;
            }
        }
        int n = random.nextInt(40) == 0 ? pick(0, 400) : text.length();
        String ends = same("end(" + n + ")", () -> x.end(n) ? 1 : 0, () -> y.end(n) ? 1 : 0);
        int s = slope();
        String ruled = same("rule(" + s + ") of " + text, () -> x.rule(s), () -> y.rule(s));
        int what = pick(0, 1);
        String fault = same("fault(" + what + ")", () -> x.fault(what), () -> y.fault(what));
        return ends != null ? ends : ruled != null ? ruled : fault;
    }

    private String pieces() {
        StringBuilder text = new StringBuilder();
        for (int k = random.nextInt(30); k > 0; k--) {
            text.append(PIECES[random.nextInt(PIECES.length)]);
        }
        return text.toString();
    }

    private String damaged(String text) {
        if (random.nextInt(4) != 0 || text.isEmpty()) {
            return text;
        }
        int at = random.nextInt(text.length());
        String piece = PIECES[random.nextInt(PIECES.length)];
        return text.substring(0, at) + piece + text.substring(random.nextBoolean() ? at : at + 1);
    }

    private String blanks() {
        return " ".repeat(random.nextInt(6) == 0 ? random.nextInt(4) : 1);
    }

    private String rule(int deep) {
        switch (deep <= 0 ? 3 + random.nextInt(6) : random.nextInt(9)) {
            case 0:
                return rule(deep - 1) + blanks() + "and" + blanks() + rule(deep - 1);
            case 1:
                return rule(deep - 1) + blanks() + "or" + blanks() + rule(deep - 2);
            case 2:
                int times = random.nextInt(5) == 0 ? random.nextInt(23) : 1;
                boolean nots = random.nextBoolean();
                return nots ? "not ".repeat(times) + rule(deep - 1) : "(".repeat(times) + rule(deep - 1) + ")".repeat(times);
            case 3:
                return "open " + (random.nextInt(9) == 0 ? 11 : Math.max(0, slope() & 15));
            case 4:
                return "lift" + blanks() + (lift() & 7);
            case 5:
                return "snow" + blanks() + "<=>".charAt(random.nextInt(3)) + blanks() + random.nextInt(20);
            case 6:
                return "wind" + "<=>".charAt(random.nextInt(3)) + random.nextInt(300);
            case 7:
                return "hour " + "<=>".charAt(random.nextInt(3)) + blanks() + random.nextInt(great ? 100 : 4);
            default:
                return "worn" + blanks() + "<=>".charAt(random.nextInt(3)) + " " + random.nextInt(5);
        }
    }

    private String asksSlopes() {
        int s = slope();
        int l = lift();
        switch (random.nextInt(4)) {
            case 0:
                int v = pick(0, random.nextBoolean() ? 300 : 60);
                return same("wind(" + v + ")", () -> {
                    x.wind(v);
                    return 0;
                }, () -> {
                    y.wind(v);
                    return 0;
                });
            case 1:
                boolean on = random.nextInt(3) == 0;
                return same("stop(" + l + ", " + on + ")", () -> x.stop(l, on) ? 1 : 0, () -> y.stop(l, on) ? 1 : 0);
            case 2:
                return same("runs(" + l + ")", () -> x.runs(l) ? 1 : 0, () -> y.runs(l) ? 1 : 0);
            default:
                return same("open(" + s + ")", () -> x.open(s) ? 1 : 0, () -> y.open(s) ? 1 : 0);
        }
    }

    private String goesOn() {
        int minutes = random.nextInt(60) == 0 ? pick(0, 600) : pick(0, random.nextBoolean() ? 2 : 12);
        return same("step(" + minutes + ")", () -> x.step(minutes), () -> y.step(minutes));
    }

    private String asksGroups() {
        int g = pick(0, (int) y.count(3) - 1);
        int l = lift();
        int k = pick(0, 6);
        int what = pick(0, 4);
        switch (random.nextInt(4)) {
            case 0:
                return same("row(" + l + ", " + k + ")", () -> x.row(l, k), () -> y.row(l, k));
            case 1:
                int who = pick(0, 3);
                return same("people(" + who + ")", () -> x.people(who), () -> y.people(who));
            default:
                return same("look(" + g + ", " + what + ")", () -> x.look(g, what), () -> y.look(g, what));
        }
    }

    private String snows() {
        int c = cell();
        boolean made = random.nextBoolean();
        int n = pick(0, great ? 100000 : 900);
        switch (random.nextInt(4)) {
            case 0:
                int most = random.nextInt(5) == 0 ? pick(0, 1000000) : n;
                return same("melt(" + c + ", " + most + ")", () -> x.melt(c, most), () -> y.melt(c, most));
            case 1:
                return same("push(" + c + ")", () -> x.push(c), () -> y.push(c));
            default:
                return same("snow(" + c + ", " + made + ", " + n + ")", () -> x.snow(c, made, n), () -> y.snow(c, made, n));
        }
    }

    private String asksCells() {
        int c = cell();
        int what = pick(0, 7);
        return same("cell(" + c + ", " + what + ")", () -> x.cell(c, what), () -> y.cell(c, what));
    }

    private String wants() {
        int c = cell();
        if (random.nextInt(3) == 0) {
            int v = random.nextInt(40) == 0 ? pick(-10000, 10000) : pick(-3, 40);
            return same("price(" + c + ", " + v + ")", () -> {
                x.price(c, v);
                return 0;
            }, () -> {
                y.price(c, v);
                return 0;
            });
        }
        int n = pick(0, great ? 60000 : 700);
        return same("want(" + c + ", " + n + ")", () -> {
            x.want(c, n);
            return 0;
        }, () -> {
            y.want(c, n);
            return 0;
        });
    }

    private String asksSums() {
        int what = pick(0, 11);
        switch (random.nextInt(3)) {
            case 0:
                return same("least()", x::least, y::least);
            case 1:
                return same("judge()", x::judge, y::judge);
            default:
                return same("count(" + what + ")", () -> x.count(what), () -> y.count(what));
        }
    }
}
