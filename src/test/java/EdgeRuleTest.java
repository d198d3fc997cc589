/** Section 2 and promises 6 to 9: each sentence that names an edge has a test of its own. */
public final class EdgeRuleTest {
    private static final int LOWEST = Integer.MIN_VALUE;
    private static final int HIGHEST = Integer.MAX_VALUE;
    private static final int RIGHT = SkiHill.NONE;

    public static void main(String[] args) {
        ors();
        ands();
        parts();
        tests();
        digits();
        lengths();
        blanks();
        firstWrong();
        anyOtherByte();
        noneOfThese();
        moreDigits();
        thatThereIsNot();
        openAtOnce();
        moreMustCome();
        Check.close();
    }

    private static SkiHill hill() {
        SkiHill x = new SkiHill();
        x.lift(0, 1, 1, 1, 0);
        x.lift(0, 1, 1, 1, 0);
        x.slope(1, 0, 1, 0, 1);
        x.slope(1, 0, 1, 0, 1);
        x.slope(1, 0, 1, 0, 1);
        return x;
    }

    /** The first wrong byte of a text for SLOPE 0 of a hill of two LIFTS and three SLOPES; RIGHT without one. */
    private static void text(String text, int at) {
        SkiHill x = hill();
        Check.text(x, text);
        if (at == RIGHT) {
            x.rule(0);
        } else {
            Check.number("\"" + text + "\"", () -> x.rule(0));
        }
        Check.due("first wrong byte of \"" + text + "\"", x.fault(0), at);
        Check.due("circle of \"" + text + "\"", x.fault(1), 0);
        Check.due("a rule of \"" + text + "\"", x.unrule(0), at == RIGHT);
    }

    private static void ors() {
        Check.sentence("EITHER: BOTH { or BOTH }.");
        text("lift 0", RIGHT);
        text("lift 0 or lift 0", RIGHT);
        text("lift 0" + " or lift 0".repeat(39), RIGHT);
        text("lift 0 or lift 0 and lift 0 or lift 0", RIGHT);
        text("or lift 0", 0);
        text("lift 0 or", 9);
        text("lift 0 or or lift 0", 10);
        text("lift 0 or and lift 0", 10);
        text("lift 0 or lift 0 or", 19);
        text("lift 0 lift 0", 7);
    }

    private static void ands() {
        Check.sentence("BOTH: PART { and PART }.");
        text("lift 0 and lift 0", RIGHT);
        text("lift 0" + " and lift 0".repeat(35), RIGHT);
        text("and", 0);
        text("lift 0 and", 10);
        text("lift 0 and and lift 0", 11);
        text("lift 0 and or lift 0", 11);
        text("lift 0 and )", 11);
    }

    private static void parts() {
        Check.sentence("PART: not PART | ( EITHER ) | TEST.");
        text("not lift 0", RIGHT);
        text("not not lift 0", RIGHT);
        text("(lift 0)", RIGHT);
        text("(lift 0 or lift 1)", RIGHT);
        text("not (not (lift 0))", RIGHT);
        text("", 0);
        text("not", 3);
        text("not or lift 0", 4);
        text("not )", 4);
        text("(", 1);
        text("()", 1);
        text(")", 0);
        text("(lift 0", 7);
        text("((lift 0)", 9);
        text("(lift 0))", 8);
        text("(lift 0 lift 1)", 8);
        text("(lift 0) (lift 1)", 9);
        text("(lift 0) lift 1", 9);
        text("(lift 0) not lift 1", 9);
        text("lift 0 not lift 1", 7);
        text("lift 0 (lift 1)", 7);
        text("(lift 0 or)", 10);
        text("(lift 0 and)", 11);
        text("(not)", 4);
    }

    private static void tests() {
        Check.sentence("TEST: snow, wind, hour or worn, then < , > or = , then a NUMBER; or open NUMBER, or lift NUMBER.");
        for (String word : new String[] {"snow", "wind", "hour", "worn"}) {
            for (String sign : new String[] {"<", ">", "="}) {
                text(word + sign + "0", RIGHT);
                text(word + sign, 5);
                text(word + sign + sign + "0", 5);
                text(word + sign + "lift", 5);
                text(word + sign + "(0)", 5);
                text(word + sign + "0" + sign + "0", 6);
            }
            text(word, 4);
            text(word + " 0", 5);
            text(word + " and", 5);
            text(word + "(0)", 4);
            text("0<" + word, 0);
        }
        for (String word : new String[] {"open", "lift"}) {
            text(word + " 1", RIGHT);
            text(word, 4);
            text(word + "=1", 4);
            text(word + " " + word, 5);
            text(word + "(1)", 4);
            text(word + " 1=1", 6);
            text(word + " not 1", 5);
        }
        text("1", 0);
        text("<", 0);
    }

    private static void digits() {
        Check.sentence("A NUMBER: 1 to 6 digits.");
        String many = "0000001";
        for (int digits = 1; digits <= 6; digits++) {
            text("lift" + many.substring(7 - digits), RIGHT);
            text("open" + many.substring(7 - digits), RIGHT);
            text("wind=" + "9".repeat(digits), RIGHT);
            text("wind=" + "0".repeat(digits), RIGHT);
        }
        text("wind=", 5);
        text("wind=" + "9".repeat(7), 5);
        text("wind=" + "0".repeat(7), 5);
        text("lift" + many, 4);
        text("open" + many, 4);
        SkiHill x = hill();
        for (int k = 0; k < 10; k++) {
            x.snow(0, false, 100000);
        }
        // The greatest NUMBER is told from those beside what is there: 10000.00 of snow lie.
        String[] held = {"snow=010000", "snow<10001", "snow>9999", "snow<999999", "not snow=10001", "not snow=9999", "not snow>999999"};
        for (String one : held) {
            Check.rule(x, 0, one);
            Check.due(one, x.open(0), true);
        }
    }

    private static void lengths() {
        Check.sentence("Words are as long as letters a to z go on, NUMBERS as digits do");
        text("liftlift 0", 0);
        text("notlift 0", 0);
        text("lif t 0", 0);
        text("lift0and lift0", RIGHT);
        text("lift0andlift0", 5);
        text("lift0or lift0", RIGHT);
        text("lift0orlift0", 5);
        text("lift 0 1", 7);
        text("wind=1 2", 7);
        text("wind=12and wind=3or lift1", RIGHT);
        text("wind=999999 9", 12);
        text("no t lift 0", 0);
        text("windz=1", 0);
        text("wind`=1", 4);
        text("wind{=1", 4);
        text("wind=/1", 5);
        text("wind=:1", 5);
        text("wind=1/", 6);
        text("wind=1:", 6);
    }

    private static void blanks() {
        Check.sentence("between all there may be blanks (32), also ahead and behind");
        String[] all = {"not", "(", "snow", "<", "5", "or", "wind", ">", "6", ")", "and", "(", "hour", "=", "7", ")", "or", "open", "1", "and", "lift", "1"};
        for (int many = 1; many <= 15; many += 7) {
            StringBuilder text = new StringBuilder(" ".repeat(many));
            for (String one : all) {
                text.append(one).append(" ".repeat(many));
            }
            text(text.toString(), RIGHT);
        }
        text("not(snow<5or wind>6)and(hour=7)or open1and lift1", RIGHT);
        text(" ", 1);
        text(" ".repeat(400), 400);
        text("lift 1" + " ".repeat(394), RIGHT);
        text(" ".repeat(394) + "lift 1", RIGHT);
        for (int other : new int[] {0, 9, 10, 13, 31, 33, 160, 255}) {
            text((char) other + "lift 1", 0);
            text("lift" + (char) other + "1", 4);
            text("lift 1" + (char) other, 6);
        }
    }

    private static void firstWrong() {
        Check.sentence("The first wrong byte: the begin of the first word, NUMBER or sign that cannot stand there");
        text("   worm < 1", 3);
        text("snow <  snow < !", 8);
        text("lift 1 and   000x", 13);
        text("(lift 1 or wind < 300)   hour", 25);
        text("lift 1 <= ! x", 7);
        text("  5", 2);
        text("lift 1 )  (", 7);
        text("lift 9 )", 5);
        text("x" + "y".repeat(399), 0);
        text(" ".repeat(399) + "x", 399);
    }

    private static void anyOtherByte() {
        Check.sentence("any other byte, too");
        for (int b = 0; b < 256; b++) {
            char sign = (char) b;
            boolean letter = b >= 'a' && b <= 'z';
            boolean digit = b >= '0' && b <= '9';
            text(sign + "lift 0", b == ' ' ? RIGHT : b == '(' ? 7 : 0);
            text("lift 0" + sign, b == ' ' || b == '0' || b == '1' ? RIGHT : digit ? 5 : 6);
            text("li" + sign + "ft 0", 0);
            text("wind =" + sign + "5", b == ' ' || digit ? RIGHT : 6);
            text("wind" + sign + "5", b == '<' || b == '=' || b == '>' ? RIGHT : b == ' ' ? 5 : letter ? 0 : 4);
            text("wind=5" + sign + "5", digit ? RIGHT : b == ' ' ? 7 : 6);
            text("lift 0 or" + sign + "lift 0", b == ' ' ? RIGHT : b == '(' ? 16 : letter ? 7 : 9);
        }
    }

    private static void noneOfThese() {
        Check.sentence("a word that is none of these");
        String[] words = {"snow", "wind", "hour", "worn", "open", "lift", "not", "and", "or"};
        for (String word : words) {
            for (int k = 0; k < word.length(); k++) {
                String less = word.substring(0, k) + word.substring(k + 1);
                String other = word.substring(0, k) + (char) (word.charAt(k) == 'z' ? 'a' : word.charAt(k) + 1) + word.substring(k + 1);
                String capital = word.substring(0, k) + (char) (word.charAt(k) - 32) + word.substring(k + 1);
                text(less + " 0", 0);
                text(other + " 0", 0);
                text("lift 0 " + other + " lift 0", 7);
                text(capital + " 0", 0);
            }
            text(word + "s", 0);
            text("a" + word, 0);
        }
        text("true", 0);
        text("size < 1", 0);
        text("lift 0 xor lift 1", 7);
    }

    private static void moreDigits() {
        Check.sentence("a NUMBER of more digits");
        for (int digits = 7; digits <= 40; digits += 11) {
            text("wind < " + "0".repeat(digits), 7);
            text("wind < " + "1".repeat(digits) + " or", 7);
            text("lift " + "0".repeat(digits), 5);
            text("open " + "0".repeat(digits), 5);
        }
        text("wind < 123456", RIGHT);
        text("wind < 1234567", 7);
        // 2 to the 32nd and 2 to the 32nd and 1 are no NUMBERS, and not taken for 0 and 1.
        text("lift 4294967296", 5);
        text("open 4294967297", 5);
        text("wind = " + "9".repeat(393), 7);
    }

    private static void thatThereIsNot() {
        Check.sentence("of open and lift that of a SLOPE, LIFT that there is not");
        text("lift 1", RIGHT);
        text("lift 2", 5);
        text("open 2", RIGHT);
        text("open 3", 5);
        text("lift  000002", 6);
        text("open  000003", 6);
        text("lift 999999", 5);
        text("open 999999", 5);
        text("lift 32", 5);
        text("open 33", 5);
        text("open 1 or open 3 or open 2", 15);
        SkiHill x = new SkiHill();
        x.slope(0, 1, 1, 0, 1);
        Check.text(x, "lift 0");
        Check.number("of no lift", () -> x.rule(0));
        Check.due("its begin", x.fault(0), 5);
        x.lift(0, 1, 1, 1, 0);
        Check.due("there is one now", Check.rule(x, 0, "lift 0"), 0);
        Check.text(x, "open 1");
        Check.number("of no other slope", () -> x.rule(0));
        x.slope(0, 1, 1, 0, 1);
        Check.due("there is one now", Check.rule(x, 0, "open 1"), 1);
        while (x.count(0) < 8) {
            x.lift(0, 1, 1, 1, 0);
        }
        while (x.count(1) < 10) {
            x.slope(0, 1, 1, 0, 1);
        }
        Check.due("the last of all", Check.rule(x, 0, "open 9 and lift 7"), 1);
        Check.text(x, "open 10");
        Check.number("behind the last slope", () -> x.rule(0));
        Check.text(x, "lift 8");
        Check.number("behind the last lift", () -> x.rule(0));
    }

    private static void openAtOnce() {
        Check.sentence("a parenthesis or not that would be the 21st of those that are open: a not is till its PART has ended");
        for (int nots = 0; nots <= 20; nots++) {
            // All ways to come to twenty with nots ahead and parentheses behind, and the other way round.
            String nested = "not ".repeat(nots) + "(".repeat(20 - nots);
            String closed = ")".repeat(20 - nots);
            text(nested + "lift 0" + closed, RIGHT);
            text(nested + "not lift 0" + closed, nested.length());
            text(nested + "(lift 0)" + closed, nested.length());
            String turned = "(".repeat(20 - nots) + "not ".repeat(nots);
            text(turned + "lift 0" + closed, RIGHT);
            text(turned + "not lift 0" + closed, turned.length());
            text(turned + "(lift 0)" + closed, turned.length());
            // What has ended makes room for as many again.
            text(turned + "lift 0 and " + "not ".repeat(nots) + "lift 1" + closed, RIGHT);
            text(turned + "lift 0 or " + "not ".repeat(nots) + "not lift 1" + closed, turned.length() + 10 + 4 * nots);
        }
        text("(".repeat(20) + "lift 0" + ")".repeat(20) + "and" + "(".repeat(20) + "lift 0" + ")".repeat(20), RIGHT);
        text("(".repeat(20) + "lift 0)and(lift 0" + ")".repeat(20), RIGHT);
        text("(".repeat(20) + "lift 0)and((lift 0" + ")".repeat(21), 31);
        text("not not(lift 0)and " + "not ".repeat(20) + "lift 0", RIGHT);
        text("(not not(lift 0)and " + "not ".repeat(19) + "lift 0)", RIGHT);
        text("(not not(lift 0)and " + "not ".repeat(20) + "lift 0)", 20 + 76);
        // Of a not that has a parenthesis for its PART both are open in it.
        text("not(not(".repeat(10), 40);
        text("(".repeat(400), 20);
        text("not ".repeat(100), 80);
    }

    private static void moreMustCome() {
        Check.sentence("or the text's length, if more must come");
        String text = " not ( snow < 12 and hour = 3 ) or lift 1 and not open 2";
        // Where the text may end behind a NUMBER; all else needs more or breaks a word off.
        for (int length = 0; length <= text.length(); length++) {
            String part = text.substring(0, length);
            boolean broken = length > 0 && length < text.length() && Character.isLetter(text.charAt(length - 1)) && Character.isLetter(text.charAt(length));
            if (broken) {
                text(part, Math.max(part.lastIndexOf(' '), part.lastIndexOf('(')) + 1);
            } else {
                boolean whole = length == 31 || length == 32 || length == 41 || length == 42 || length == text.length();
                text(part, whole ? RIGHT : length);
            }
        }
        text("lift 0 and   ", 13);
        text(" ".repeat(398) + "((", 400);
    }
}
