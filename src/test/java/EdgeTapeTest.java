/** Promises 2, 3 and what promise 6 says of the TAPE: each sentence that names an edge has a test of its own. */
public final class EdgeTapeTest {
    private static final int LOWEST = Integer.MIN_VALUE;
    private static final int HIGHEST = Integer.MAX_VALUE;
    private static final int BLANKS = 0x20202020;

    public static void main(String[] args) {
        behindTheTape();
        highestFirst();
        everyByte();
        noneCome();
        firstBytesAlone();
        fewer();
        usedUp();
        afterUse();
        Check.close();
    }

    private static SkiHill hill() {
        SkiHill x = new SkiHill();
        x.slope(0, 1, 1, 0, 1);
        return x;
    }

    private static void behindTheTape() {
        Check.sentence("Twenty bytes come behind the TAPE");
        SkiHill x = hill();
        for (int k = 1; k <= 20; k++) {
            Check.due("how many it has", x.feed(BLANKS, BLANKS, BLANKS, BLANKS, BLANKS), 20 * k);
        }
        SkiHill y = hill();
        y.feed(BLANKS, BLANKS, BLANKS, BLANKS, BLANKS);
        y.end(1);
        Check.due("behind one byte", y.feed(0x77696e64, 0x3d302020, BLANKS, BLANKS, BLANKS), 21);
        Check.due("blank and wind=0", y.rule(0), 0);
        Check.due("it holds", y.open(0), true);
        y.wind(1);
        Check.due("it does not", y.open(0), false);
    }

    private static void highestFirst() {
        Check.sentence("of each number the highest first");
        // Each of the twenty places holds another byte than a blank in turn: the first wrong byte tells where it lies.
        for (int place = 0; place < 20; place++) {
            SkiHill x = hill();
            int[] five = {BLANKS, BLANKS, BLANKS, BLANKS, BLANKS};
            five[place / 4] = five[place / 4] & ~(255 << 24 - 8 * (place % 4)) | 0x21 << 24 - 8 * (place % 4);
            x.feed(five[0], five[1], five[2], five[3], five[4]);
            Check.number("byte " + place, () -> x.rule(0));
            Check.due("where it lies", x.fault(0), place);
        }
        SkiHill y = hill();
        // "hour=0and worn=0 and"
        y.feed(0x686f7572, 0x3d30616e, 0x6420776f, 0x726e3d30, 0x20616e64);
        Check.due("cut", y.end(16), true);
        Check.due("right", y.rule(0), 0);
    }

    private static void everyByte() {
        Check.sentence("any other byte, too");
        for (int b = 0; b < 256; b++) {
            SkiHill x = hill();
            int four = b << 24 | 0x202020;
            x.feed(four, BLANKS, BLANKS, BLANKS, BLANKS);
            Check.number("byte " + b, () -> x.rule(0));
            Check.due("byte " + b + " alone", x.fault(0), b == ' ' || b == '(' ? 20 : 0);
        }
    }

    private static void noneCome() {
        Check.sentence("NONE, and none come, if it would have more than 400.");
        for (int had = 378; had <= 400; had++) {
            SkiHill x = hill();
            for (int k = 0; k < 20; k++) {
                x.feed(BLANKS, BLANKS, BLANKS, BLANKS, BLANKS);
            }
            x.end(had);
            boolean fits = had <= 380;
            Check.due("feed to " + had, x.feed(0x21212121, 0, 0, 0, 0), fits ? had + 20 : SkiHill.NONE);
            Check.due("has no more", x.end(fits ? had + 21 : had + 1), false);
            Check.due("has as many", x.end(fits ? had + 20 : had), true);
            Check.number("of that", () -> x.rule(0));
            Check.due("none came but those that fit", x.fault(0), had);
        }
    }

    private static void firstBytesAlone() {
        Check.sentence("The TAPE has its first n bytes alone: true");
        for (int n = 0; n <= 20; n++) {
            SkiHill x = hill();
            x.feed(BLANKS, BLANKS, BLANKS, BLANKS, BLANKS);
            Check.due("end(" + n + ")", x.end(n), true);
            Check.due("again", x.end(n), true);
            Check.due("one more is not there", x.end(n + 1), false);
            Check.number("blanks", () -> x.rule(0));
            Check.due("as many", x.fault(0), n);
        }
        SkiHill y = hill();
        Check.due("none of none", y.end(0), true);
    }

    private static void fewer() {
        Check.sentence("false, and nothing happens, if it has fewer, or n is below 0.");
        SkiHill x = hill();
        for (int n : new int[] {1, -1, 400, 401, LOWEST, HIGHEST}) {
            Check.due("end(" + n + ") of none", x.end(n), false);
        }
        x.feed(BLANKS, BLANKS, BLANKS, BLANKS, BLANKS);
        for (int n : new int[] {21, -1, -20, 400, 256, LOWEST, HIGHEST}) {
            Check.due("end(" + n + ") of twenty", x.end(n), false);
        }
        Check.number("the blanks", () -> x.rule(0));
        Check.due("nothing happened", x.fault(0), 20);
    }

    private static void usedUp() {
        Check.sentence("Uses the TAPE up");
        SkiHill x = hill();
        Check.rule(x, 0, "wind = 0");
        Check.due("behind a right text", x.end(1), false);
        Check.text(x, "wind = x");
        Check.number("wrong", () -> x.rule(0));
        Check.due("behind a wrong text", x.end(1), false);
        Check.text(x, "open 0");
        Check.thrown("circle", IllegalStateException.class, () -> x.rule(0));
        Check.due("behind a circle", x.end(1), false);
        Check.sentence("a call that throws changes nothing but what is said, and the TAPE, where it is used up");
        for (int none : new int[] {1, -1, LOWEST, HIGHEST}) {
            Check.text(x, "wind = 1");
            Check.place("rule(" + none + ")", () -> x.rule(none));
            Check.due("behind no such slope", x.end(1), false);
        }
        Check.due("no rule came", x.open(0), true);
        Check.number("the empty text", () -> x.rule(0));
        Check.due("wrong at its begin", x.fault(0), 0);
    }

    private static void afterUse() {
        Check.sentence("Uses the TAPE up: it is a SLOPE's RULE");
        SkiHill x = hill();
        // A long text, then a short one: nothing of the first is left behind the second.
        Check.rule(x, 0, "wind = 0 or wind = 1 or wind = 2 or wind = 3");
        Check.rule(x, 0, "wind = 9");
        Check.due("the first is gone", x.open(0), false);
        Check.due("the full length is free", x.feed(0, 0, 0, 0, 0), 20);
        // What comes onto the TAPE later is no part of the RULE.
        x.wind(9);
        Check.due("the second holds", x.open(0), true);
        Check.text(x, "lift");
        Check.due("it holds still", x.open(0), true);
    }
}
