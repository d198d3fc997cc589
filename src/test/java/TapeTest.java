/** Promises 2 and 3. The TAPE is seen by the RULES that are read from it. */
public final class TapeTest {
    public static void main(String[] args) {
        fills();
        cuts();
        ordersBytes();
        endsWithinWords();
        Check.close();
    }

    private static void fills() {
        SkiHill x = new SkiHill();
        for (int k = 1; k <= 20; k++) {
            Check.due("2: feed " + k, x.feed(0x20202020, 0x20202020, 0x20202020, 0x20202020, 0x20202020), 20 * k);
        }
        Check.due("2: feed of a full tape", x.feed(1, 2, 3, 4, 5), SkiHill.NONE);
        Check.due("3: end(401) of 400", x.end(401), false);
        Check.due("3: end(400) of 400", x.end(400), true);
        Check.due("2: feed of a full tape again", x.feed(1, 2, 3, 4, 5), SkiHill.NONE);
        Check.due("3: end(381)", x.end(381), true);
        Check.due("2: feed to 401", x.feed(1, 2, 3, 4, 5), SkiHill.NONE);
        x.slope(0, 0, 1, 0, 1);
        Check.number("6: only blanks", () -> x.rule(0));
        Check.due("8: none came when none fitted", x.fault(0), 381);
    }

    private static void cuts() {
        SkiHill x = new SkiHill();
        Check.due("3: end(0) of none", x.end(0), true);
        Check.due("3: end(1) of none", x.end(1), false);
        Check.due("3: end(-1) of none", x.end(-1), false);
        x.feed(0, 0, 0, 0, 0);
        Check.due("3: end(21) of 20", x.end(21), false);
        Check.due("3: end(20) of 20", x.end(20), true);
        Check.due("3: end(-1) of 20", x.end(-1), false);
        Check.due("3: end(lowest)", x.end(Integer.MIN_VALUE), false);
        Check.due("3: end(highest)", x.end(Integer.MAX_VALUE), false);
        Check.due("3: none of these cut", x.feed(0, 0, 0, 0, 0), 40);
        Check.due("3: end(7)", x.end(7), true);
        Check.due("3: end(8) of 7", x.end(8), false);
        Check.due("3: seven are left", x.feed(0, 0, 0, 0, 0), 27);
    }

    /** Bytes that end() took away are no part of the text, though letters and digits go on there. */
    private static void endsWithinWords() {
        SkiHill x = new SkiHill();
        x.slope(0, 0, 1, 0, 1);
        Check.text(x, "notx");
        x.end(3);
        Check.number("3: not of notx", () -> x.rule(0));
        Check.due("8: more must come behind not", x.fault(0), 3);
        Check.text(x, "wind < 1234");
        x.end(8);
        Check.due("3: wind < 1 of wind < 1234", x.rule(0), 0);
        x.wind(1);
        Check.due("9: wind is not below 1", x.open(0), false);
        Check.text(x, "wind < 1234567");
        x.end(13);
        Check.due("3: six digits of seven", x.rule(0), 0);
        Check.due("9: wind < 123456", x.open(0), true);
    }

    private static void ordersBytes() {
        SkiHill x = new SkiHill();
        x.slope(0, 0, 1, 0, 1);
        x.feed(0x77696e64, 0x203d2031, 0x32333435, 0x20616e64, 0x20776f72);
        x.feed(0x6e203c20, 0x31202020, 0x20202020, 0x20202020, 0x80ffff80);
        Check.due("3: end(36)", x.end(36), true);
        Check.due("6: wind = 12345 and worn < 1", x.rule(0), 0);
        Check.due("6: it holds not", x.open(0), false);
        Check.due("6: the tape is used up", x.feed(0x77696e64, 0x3d302020, -1, -1, -1), 20);
        Check.number("6: bytes above 127", () -> x.rule(0));
        Check.due("8: byte 255", x.fault(0), 8);
        x.feed(0x77696e64, 0x3d300000, 0, 0, 0);
        x.end(6);
        Check.due("6: wind=0", x.rule(0), 0);
        Check.due("6: it holds", x.open(0), true);
        // The first bytes stay as they were, the new ones come behind those that end() left.
        x.feed(0x77696e64, 0x3d302020, 0, 0, 0);
        x.end(5);
        x.feed(0x31303020, 0x20202020, 0x20202020, 0x20202020, 0x20202020);
        Check.due("6: wind=100", x.rule(0), 0);
        Check.due("6: wind is not 100", x.open(0), false);
        x.wind(100);
        Check.due("6: wind is 100", x.open(0), true);
    }
}
