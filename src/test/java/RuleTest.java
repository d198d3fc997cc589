/** Promises 6, 7, 8, 9. */
public final class RuleTest {
    private static final String TWENTY_NOTS = "not ".repeat(20);

    public static void main(String[] args) {
        wrongTexts();
        rightTexts();
        nesting();
        meanings();
        bindings();
        namings();
        leaning();
        faultsInTurn();
        manyRules();
        wrongCalls();
        longestText();
        Check.close();
    }

    private static SkiHill hill() {
        SkiHill x = new SkiHill();
        x.lift(0, 1, 4, 2, 50);
        x.lift(0, 1, 4, 2, 50);
        for (int k = 0; k < 3; k++) {
            x.slope(1, 0, 3, 2, 2);
        }
        return x;
    }

    private static void wrong(String text, int at) {
        SkiHill x = hill();
        Check.rule(x, 0, "wind > 7");
        Check.text(x, text);
        Check.number("6: \"" + text + "\"", () -> x.rule(0));
        Check.due("8: first wrong byte of \"" + text + "\"", x.fault(0), at);
        Check.due("8: no circle of \"" + text + "\"", x.fault(1), 0);
        Check.due("6: the rule is as it was", x.open(0), false);
        x.wind(8);
        Check.due("6: the rule is as it was", x.open(0), true);
        Check.due("6: the tape is used up", x.feed(0, 0, 0, 0, 0), 20);
    }

    private static void wrongTexts() {
        wrong("", 0);
        wrong("   ", 3);
        wrong("snow", 4);
        wrong("snow ", 5);
        wrong("snow<", 5);
        wrong("  snow <  ", 10);
        wrong("snow 5", 5);
        wrong("snow < <", 7);
        wrong("snow << 5", 6);
        wrong("snow <= 5", 6);
        wrong("snow < snow", 7);
        wrong("5 < snow", 0);
        wrong("snow < 1 2", 9);
        wrong("snow < 12345678", 7);
        wrong("snow < 0000001", 7);
        wrong("snow < 1 1234567", 9);
        wrong("snow < -1", 7);
        wrong("snow < 1 and", 12);
        wrong("snow < 1 and ", 13);
        wrong("snow < 1 or", 11);
        wrong("snow < 1 and or wind < 1", 13);
        wrong("snow < 1 not wind < 1", 9);
        wrong("snow < 1 wind < 1", 9);
        wrong("snow < 1 (wind < 1)", 9);
        wrong("snow < 1 andwind < 1", 9);
        wrong("and snow < 1", 0);
        wrong("or", 0);
        wrong("not", 3);
        wrong("not and", 4);
        wrong("notsnow < 1", 0);
        wrong("nots", 0);
        wrong("sno", 0);
        wrong("snowz < 1", 0);
        wrong("zsnow < 1", 0);
        for (String word : new String[] {"now < 1", "ind < 1", "our < 1", "orn < 1", "pen 1", "ift 0", "ot lift 0"}) {
            wrong("x" + word, 0);
            wrong(word, 0);
        }
        wrong("lift 0 xnd lift 0", 7);
        wrong("lift 0 xr lift 0", 7);
        wrong("(and lift 0", 1);
        wrong("(or lift 0)", 1);
        wrong("(lift 0 and or lift 1)", 12);
        wrong("not (and lift 0", 5);
        wrong("Snow < 1", 0);
        wrong("snOw < 1", 0);
        wrong("snow < 1 AND wind < 1", 9);
        wrong("snow\t< 1", 4);
        wrong("snow < 1\n", 8);
        wrong("snow < 1" + (char) 0, 8);
        wrong("snow < 1" + (char) 160, 8);
        wrong("sn" + (char) 233 + "w < 1", 0);
        wrong("{snow < 1", 0);
        wrong("`", 0);
        wrong("snow < 1.5", 8);
        wrong("snow < 1a", 8);
        wrong("()", 1);
        wrong("(snow < 1", 9);
        wrong("(snow < 1 ", 10);
        wrong("(snow < 1))", 10);
        wrong("snow < 1)", 8);
        wrong(")", 0);
        wrong("(snow < 1 wind", 10);
        wrong("(snow < 1) not lift 0", 11);
        wrong("open", 4);
        wrong("open <", 5);
        wrong("open < 1", 5);
        wrong("open 3", 5);
        wrong("open 999999", 5);
        wrong("open 0000001", 5);
        wrong("open x", 5);
        wrong("lift", 4);
        wrong("lift 2", 5);
        wrong("lift  12345678", 6);
        wrong("lift open", 5);
        wrong("open 1 > 2", 7);
        wrong("snow open 1", 5);
        wrong("hour : 1", 5);
        wrong("hour ; 1", 5);
        wrong("wind / 1", 5);
        wrong("worn ? 1", 5);
        wrong("worn = 1 & worn = 1", 9);
    }

    private static void right(String text, int names, boolean open) {
        SkiHill x = hill();
        Check.rule(x, 1, "wind = 3");
        Check.due("6: \"" + text + "\"", Check.rule(x, 0, text), names);
        Check.due("8: \"" + text + "\"", x.fault(0), SkiHill.NONE);
        Check.due("8: \"" + text + "\"", x.fault(1), 0);
        Check.due("9: \"" + text + "\"", x.open(0), open);
        Check.due("6: the tape is used up", x.feed(0, 0, 0, 0, 0), 20);
    }

    private static void rightTexts() {
        right("snow=0", 0, true);
        right("  snow  =  0  ", 0, true);
        right("snow=000000", 0, true);
        right("snow<999999", 0, true);
        right("wind=0and hour=0and worn=0", 0, true);
        right("wind=0or wind=1", 0, true);
        right("wind>0or wind=1", 0, false);
        right("lift0and lift1", 0, true);
        right("lift 000001", 0, true);
        right("open 000001", 1, false);
        right("open1", 1, false);
        right("not open 1", 1, true);
        right("open 1 or open 1 or open 2", 2, true);
        right("not(open 1)and(not(lift 0)or lift 1)", 1, true);
        right("((((lift 0))))", 0, true);
        right("not not lift 0", 0, true);
        right("not not not lift 0", 0, false);
        right("not not open 1", 1, false);
    }

    private static void nesting() {
        wrong(TWENTY_NOTS + "not lift 0", 80);
        wrong(TWENTY_NOTS + "(lift 0)", 80);
        wrong("(".repeat(21) + "lift 0" + ")".repeat(21), 20);
        wrong("(".repeat(20) + "not lift 0" + ")".repeat(20), 20);
        wrong("lift 0 and (" + "not ".repeat(19) + "( lift 0))", 12 + 76);
        wrong("(not ".repeat(10) + "(lift 0)" + ")".repeat(10), 50);
        right(TWENTY_NOTS + "lift 0", 0, true);
        right("not(".repeat(10) + "lift 0" + ")".repeat(10), 0, true);
        right("(".repeat(20) + "lift 0" + ")".repeat(20), 0, true);
        // What has ended is not open any more.
        right(TWENTY_NOTS + "lift 0 and " + TWENTY_NOTS + "lift 1", 0, true);
        right("(not lift 0 or " + "not ".repeat(19) + "lift 0)", 0, false);
        right("(((lift 0)))and " + "(".repeat(20) + "lift 0" + ")".repeat(20), 0, true);
        right("(not lift 0 and (lift 0)) or " + "(".repeat(20) + "lift 0" + ")".repeat(20), 0, true);
    }

    private static boolean holds(SkiHill x, String text) {
        Check.rule(x, 0, text);
        return x.open(0);
    }

    private static void compares(SkiHill x, String quantity, int value) {
        for (int other = value - 1; other <= value + 1; other++) {
            Check.due("9: " + quantity + " < " + other, holds(x, quantity + " < " + other), value < other);
            Check.due("9: " + quantity + " > " + other, holds(x, quantity + " > " + other), value > other);
            Check.due("9: " + quantity + " = " + other, holds(x, quantity + " = " + other), value == other);
        }
    }

    private static void meanings() {
        SkiHill x = new SkiHill();
        x.lift(0, 1, 1, 1, 20);
        x.slope(0, 0, 1, 0, 3);
        x.slope(1, 1, 1, 9, 1);
        // Cells: 350 and 299 and 301; the least is 2.99.
        x.snow(0, false, 350);
        x.snow(1, true, 199);
        x.snow(1, false, 100);
        x.snow(2, false, 200);
        x.snow(2, true, 101);
        compares(x, "snow", 2);
        x.snow(1, true, 1);
        compares(x, "snow", 3);
        x.push(1);
        compares(x, "snow", 3);
        x.wind(17);
        compares(x, "wind", 17);
        x.step(59);
        Check.due("9: hour 0", holds(x, "hour = 0"), true);
        x.step(1);
        compares(x, "hour", 1);
        x.step(600);
        x.step(600);
        x.step(300);
        compares(x, "hour", 26);
        Check.due("9: lift 0", holds(x, "lift 0"), true);
        x.wind(21);
        Check.due("9: lift 0 in the wind", holds(x, "lift 0"), false);
        x.wind(20);
        x.stop(0, true);
        Check.due("9: lift 0 stopped", holds(x, "lift 0"), false);
        worn();
    }

    private static void worn() {
        SkiHill x = new SkiHill();
        x.slope(0, 0, 1, 9, 2);
        x.slope(1, 1, 1, 9, 1);
        x.snow(0, false, 210);
        x.snow(1, false, 1000);
        x.group(4, 9, 0);
        x.step(4);
        // 160 are worn in each cell by now.
        Check.due("9: 160 worn", holds(x, "worn = 1 and snow = 2"), true);
        x.unrule(0);
        x.step(1);
        Check.due("21: 200 worn", x.cell(1, 3), 200);
        Check.due("9: worn of another slope", holds(x, "worn > 1"), true);
        x.unrule(0);
        x.step(1);
        // Of cell 0 no more than 210 can be worn; the greatest counts.
        Check.due("21: all worn", x.cell(0, 3), 210);
        x.step(2);
        Check.due("21: 320 worn", x.cell(1, 3), 320);
        compares(x, "worn", 3);
        x.push(1);
        compares(x, "worn", 2);
        Check.rule(x, 1, "worn = 0");
        Check.due("9: the other slope is not worn", x.open(1), true);
    }

    private static void bindings() {
        // Every combination of three lifts against the plain meaning.
        SkiHill x = new SkiHill();
        for (int k = 0; k < 3; k++) {
            x.lift(0, 0, 1, 1, 0);
        }
        for (int k = 0; k < 6; k++) {
            x.slope(0, 0, 1, 0, 1);
        }
        Check.rule(x, 0, "lift 0 or lift 1 and lift 2");
        Check.rule(x, 1, "(lift 0 or lift 1) and lift 2");
        Check.rule(x, 2, "not lift 0 and lift 1 or lift 2");
        Check.rule(x, 3, "not (lift 0 and lift 1) or not lift 2");
        Check.rule(x, 4, "lift 0 and lift 1 or lift 1 and not not lift 2 or not lift 2 and lift 0");
        Check.rule(x, 5, "lift 0 and (lift 1 or (not lift 2 and (lift 1 or lift 0)))");
        for (int bits = 0; bits < 8; bits++) {
            boolean a = (bits & 1) != 0;
            boolean b = (bits & 2) != 0;
            boolean c = (bits & 4) != 0;
            x.stop(0, !a);
            x.stop(1, !b);
            x.stop(2, !c);
            Check.due("9: or binds less", x.open(0), a || b && c);
            Check.due("9: parentheses", x.open(1), (a || b) && c);
            Check.due("9: not binds most", x.open(2), !a && b || c);
            Check.due("9: not of parentheses", x.open(3), !(a && b) || !c);
            Check.due("9: many", x.open(4), a && b || b && c || !c && a);
            Check.due("9: nested", x.open(5), a && (b || !c && (b || a)));
        }
    }

    private static void namings() {
        SkiHill x = new SkiHill();
        for (int k = 0; k < 10; k++) {
            x.slope(0, 0, 1, 0, 1);
        }
        Check.due("6: names 9", Check.rule(x, 0, "open 1 or open 2 or open 3 or open 4 or open 5 or open 6 or open 7 or open 8 or open 9 or open 1"), 9);
        Check.due("9: all are open", x.open(0), true);
        // A chain of ten, each the contrary of the next.
        for (int k = 0; k < 9; k++) {
            Check.due("6: chain", Check.rule(x, k, "not open " + (k + 1)), 1);
        }
        for (int k = 0; k < 10; k++) {
            Check.due("9: chain " + k, x.open(k), (9 - k) % 2 == 0);
        }
        Check.rule(x, 9, "wind > 0");
        for (int k = 0; k < 10; k++) {
            Check.due("9: chain of closed " + k, x.open(k), (9 - k) % 2 == 1);
        }
        Check.due("7: unrule(9)", x.unrule(9), true);
        Check.due("9: open without a rule", x.open(9), true);
        Check.due("9: and so on", x.open(8), false);
        Check.due("7: unrule(9) again", x.unrule(9), false);
    }

    private static void circle(SkiHill x, int slope, String text, int bits) {
        Check.text(x, text);
        Check.thrown("6: " + text, IllegalStateException.class, () -> x.rule(slope));
        Check.due("8: " + text, x.fault(0), SkiHill.NONE);
        Check.due("8: slopes of " + text, x.fault(1), bits);
        Check.due("6: the tape is used up", x.feed(0, 0, 0, 0, 0), 20);
        x.end(0);
    }

    private static void leaning() {
        SkiHill x = new SkiHill();
        for (int k = 0; k < 10; k++) {
            x.slope(0, 0, 1, 0, 1);
        }
        circle(x, 3, "open 3", 1 << 3);
        Check.due("6: the rule is as it was", x.open(3), true);
        Check.due("7: it has none", x.unrule(3), false);
        Check.rule(x, 0, "open 1 and wind = 5");
        Check.rule(x, 1, "open 2 or open 4");
        Check.rule(x, 5, "open 0");
        circle(x, 2, "open 0", 0b111);
        circle(x, 4, "wind = 1 or open 0", 0b10011);
        circle(x, 4, "open 5", 0b110011);
        circle(x, 2, "open 5 and open 2", 0b100111);
        circle(x, 0, "open 0 or open 1", 0b1);
        Check.due("6: the old rule of 0", x.open(0), false);
        x.wind(5);
        Check.due("6: the old rule of 0", x.open(0), true);
        Check.due("6: another takes the circle away", Check.rule(x, 0, "wind = 5"), 0);
        Check.due("8: no fault any more", x.fault(1), 0);
        Check.due("6: now it may lean", Check.rule(x, 2, "open 0"), 1);
        circle(x, 0, "open 5 or open 1", 0b100111);
        Check.due("7: unrule(1)", x.unrule(1), true);
        Check.due("8: unrule tells no fault", x.fault(1), 0b100111);
        Check.due("6: without the rule of 1", Check.rule(x, 0, "open 1"), 1);
        Check.text(x, "open 10");
        Check.number("6: no slope 10", () -> x.rule(4));
        Check.due("8: at its begin", x.fault(0), 5);
        Check.due("8: no circle", x.fault(1), 0);
        // A wrong text goes ahead of a circle in it.
        Check.text(x, "open 3 or");
        Check.number("6: wrong ahead of the circle", () -> x.rule(3));
        Check.due("8: the text's length", x.fault(0), 9);
        Check.due("8: no circle in a wrong text", x.fault(1), 0);
        wholeCircle();
    }

    private static void wholeCircle() {
        SkiHill x = new SkiHill();
        for (int k = 0; k < 10; k++) {
            x.slope(0, 0, 1, 0, 1);
        }
        for (int k = 9; k > 0; k--) {
            Check.rule(x, k, "open " + (k - 1));
        }
        circle(x, 0, "open 9", 1023);
        circle(x, 0, "open 4", 0b11111);
        Check.due("9: all are open still", x.open(9), true);
    }

    private static void faultsInTurn() {
        SkiHill x = hill();
        Check.text(x, "open 0");
        Check.thrown("6: circle", IllegalStateException.class, () -> x.rule(0));
        Check.text(x, "wind or");
        Check.number("6: wrong behind a circle", () -> x.rule(0));
        Check.due("8: its wrong byte", x.fault(0), 5);
        Check.due("8: its circle is none", x.fault(1), 0);
        Check.text(x, "open 1 or open 0");
        Check.thrown("6: circle behind a wrong text", IllegalStateException.class, () -> x.rule(0));
        Check.due("8: it has no wrong byte", x.fault(0), SkiHill.NONE);
        Check.due("8: its circle", x.fault(1), 1);
        Check.text(x, "wind");
        Check.number("6: wrong", () -> x.rule(0));
        Check.due("6: right behind a wrong text", Check.rule(x, 0, "open 1"), 1);
        Check.due("8: no wrong byte", x.fault(0), SkiHill.NONE);
        Check.due("8: no circle", x.fault(1), 0);
    }

    private static void manyRules() {
        SkiHill x = hill();
        for (int k = 0; k < 80; k++) {
            String text = k % 2 == 0 ? "not lift 0 or not lift 1 or lift 0" : "lift 0 and not (lift 1 or lift 0 and lift 0)";
            Check.due("6: rule " + k, Check.rule(x, k % 3, text), 0);
            Check.due("9: rule " + k, x.open(k % 3), k % 2 == 0);
        }
    }

    private static void wrongCalls() {
        SkiHill x = hill();
        Check.text(x, "wind");
        Check.number("6: wrong", () -> x.rule(0));
        for (int bad : new int[] {-1, 3, Integer.MIN_VALUE, Integer.MAX_VALUE}) {
            Check.text(x, "lift 0");
            Check.place("6: rule(" + bad + ")", () -> x.rule(bad));
            Check.due("8: the fault is that of a slope there is", x.fault(0), 4);
            Check.due("6: the tape is used up all the same", x.feed(0, 0, 0, 0, 0), 20);
            x.end(0);
            Check.place("7: unrule(" + bad + ")", () -> x.unrule(bad) ? 1 : 0);
            Check.place("9: open(" + bad + ")", () -> x.open(bad) ? 1 : 0);
        }
        Check.text(x, "open 0");
        Check.thrown("6: circle", IllegalStateException.class, () -> x.rule(0));
        Check.place("6: rule(3)", () -> x.rule(3));
        Check.due("8: the circle is told still", x.fault(1), 1);
        Check.due("8: another what", x.fault(2), SkiHill.NONE);
        Check.due("8: another what", x.fault(Integer.MIN_VALUE), SkiHill.NONE);
    }

    private static void longestText() {
        // The TAPE is full to its last byte.
        String text = "lift0or ".repeat(49) + "not lift";
        SkiHill x = hill();
        Check.text(x, text);
        Check.number("6: 400 bytes", () -> x.rule(0));
        Check.due("8: more must come", x.fault(0), 400);
        String full = "not lift0and ".repeat(30) + "not lift1 ";
        Check.due("6: 400 bytes", Check.rule(x, 0, full), 0);
        Check.due("9: not", x.open(0), false);
        x.stop(0, true);
        Check.due("9: not yet", x.open(0), false);
        x.stop(1, true);
        Check.due("9: both stopped", x.open(0), true);
    }
}
