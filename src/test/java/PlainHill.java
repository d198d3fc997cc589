import java.util.ArrayList;
import java.util.List;
import java.util.NoSuchElementException;
import java.util.TreeSet;

/** The document written a second time, without regard to speed or to LANGUAGE.md, to hold SkiHill against. */
final class PlainHill {
    private static final String[] WORDS = {"snow", "wind", "hour", "worn", "open", "lift", "not", "and", "or"};

    private final StringBuilder tape = new StringBuilder();
    private final List<int[]> lifts = new ArrayList<>();
    private final List<Boolean> stopped = new ArrayList<>();
    private final List<List<Integer>> rows = new ArrayList<>();
    private final List<int[]> slopes = new ArrayList<>();
    private final List<String> rules = new ArrayList<>();
    private final List<int[]> cells = new ArrayList<>();
    private final List<int[]> links = new ArrayList<>();
    /** size, skill, state, where, toGo, rides, descents */
    private final List<int[]> groups = new ArrayList<>();
    private int wind;
    private int minute;
    private int faultByte = -1;
    private int faultSlopes;
    private final long[] sums = new long[4];

    int feed(int a, int b, int c, int d, int e) {
        if (tape.length() + 20 > 400) {
            return -1;
        }
        for (int number : new int[] {a, b, c, d, e}) {
            tape.append((char) (number >>> 24)).append((char) (number >>> 16 & 255));
            tape.append((char) (number >>> 8 & 255)).append((char) (number & 255));
        }
        return tape.length();
    }

    boolean end(int n) {
        boolean can = 0 <= n && n <= tape.length();
        if (can) {
            tape.setLength(n);
        }
        return can;
    }

    private static void in(int k, int size) {
        if (!(0 <= k && k < size)) {
            throw new IndexOutOfBoundsException();
        }
    }

    private static void number(int k, int least, int most) {
        if (!(least <= k && k <= most)) {
            throw new IllegalArgumentException();
        }
    }

    private static void full(boolean is) {
        if (is) {
            throw new UnsupportedOperationException();
        }
    }

    int lift(int from, int to, int seats, int minutes, int most) {
        in(from, 10);
        in(to, 10);
        number(seats, 1, 20);
        number(minutes, 1, 30);
        number(most, 0, 200);
        full(lifts.size() == 8);
        lifts.add(new int[] {from, to, seats, minutes, most});
        stopped.add(false);
        rows.add(new ArrayList<>());
        return lifts.size() - 1;
    }

    int slope(int from, int to, int minutes, int steep, int count) {
        in(from, 10);
        in(to, 10);
        number(minutes, 1, 20);
        number(steep, 0, 9);
        number(count, 1, 4);
        full(slopes.size() == 10 || cells.size() + count > 40);
        slopes.add(new int[] {from, to, minutes, steep});
        rules.add(null);
        for (int k = 0; k < count; k++) {
            cells.add(new int[] {0, 0, 0, 0, 0, slopes.size() - 1, 0, 0});
        }
        return slopes.size() - 1;
    }

    int rule(int slope) {
        String text = tape.toString();
        tape.setLength(0);
        in(slope, slopes.size());
        faultByte = firstWrong(text);
        faultSlopes = 0;
        if (faultByte != -1) {
            throw new IllegalArgumentException();
        }
        String before = rules.set(slope, text);
        for (int k = 0; k < slopes.size(); k++) {
            faultSlopes |= leansOn(k).contains(k) ? 1 << k : 0;
        }
        if (faultSlopes != 0) {
            rules.set(slope, before);
            throw new IllegalStateException();
        }
        return names(slope).size();
    }

    private TreeSet<Integer> names(int slope) {
        TreeSet<Integer> named = new TreeSet<>();
        if (rules.get(slope) != null) {
            List<String> words = words(rules.get(slope), new ArrayList<>());
            for (int k = 0; k < words.size(); k++) {
                if (words.get(k).equals("open")) {
                    named.add(Integer.parseInt(words.get(k + 1)));
                }
            }
        }
        return named;
    }

    private TreeSet<Integer> leansOn(int slope) {
        TreeSet<Integer> all = names(slope);
        for (boolean more = true; more;) {
            TreeSet<Integer> next = new TreeSet<>(all);
            for (int one : all) {
                next.addAll(names(one));
            }
            more = next.size() > all.size();
            all = next;
        }
        return all;
    }

    private static List<String> words(String text, List<Integer> begins) {
        List<String> words = new ArrayList<>();
        for (int k = 0; k < text.length();) {
            int last = k + 1;
            String kind = kindOf(text.charAt(k));
            while (!kind.isEmpty() && last < text.length() && kindOf(text.charAt(last)).equals(kind)) {
                last++;
            }
            if (text.charAt(k) != ' ') {
                words.add(text.substring(k, last));
                begins.add(k);
            }
            k = last;
        }
        return words;
    }

    private static String kindOf(char sign) {
        if (sign >= 'a' && sign <= 'z') {
            return "letter";
        }
        return sign >= '0' && sign <= '9' ? "digit" : "";
    }

    /** Word by word, with what is open on a stack; no recursion. */
    private int firstWrong(String text) {
        List<Integer> begins = new ArrayList<>();
        List<String> words = words(text, begins);
        StringBuilder stack = new StringBuilder();
        String state = "part";
        for (int k = 0; k < words.size(); k++) {
            String next = after(state, words.get(k), stack);
            if (next == null) {
                return begins.get(k);
            }
            state = next;
            while (state.equals("behind") && stack.length() > 0 && stack.charAt(stack.length() - 1) == 'n') {
                stack.setLength(stack.length() - 1);
            }
        }
        return state.equals("behind") && stack.length() == 0 ? -1 : text.length();
    }

    private String after(String state, String word, StringBuilder stack) {
        boolean digits = kindOf(word.charAt(0)).equals("digit") && word.length() <= 6;
        switch (state) {
            case "part":
                if (word.equals("not") || word.equals("(")) {
                    stack.append(word.charAt(0));
                    return stack.length() > 20 ? null : "part";
                }
                if (word.equals("open") || word.equals("lift")) {
                    return word;
                }
                return List.of("snow", "wind", "hour", "worn").contains(word) ? "sign" : null;
            case "sign":
                return "<>=".contains(word) ? "number" : null;
            case "number":
                return digits ? "behind" : null;
            case "open":
                return digits && Integer.parseInt(word) < slopes.size() ? "behind" : null;
            case "lift":
                return digits && Integer.parseInt(word) < lifts.size() ? "behind" : null;
            default:
                if (word.equals("and") || word.equals("or")) {
                    return "part";
                }
                if (word.equals(")") && stack.length() > 0) {
                    stack.setLength(stack.length() - 1);
                    return "behind";
                }
                return null;
        }
    }

    boolean unrule(int slope) {
        in(slope, slopes.size());
        return rules.set(slope, null) != null;
    }

    int fault(int what) {
        return what == 0 ? faultByte : what == 1 ? faultSlopes : -1;
    }

    boolean open(int slope) {
        in(slope, slopes.size());
        if (rules.get(slope) == null) {
            return true;
        }
        return either(slope, words(rules.get(slope), new ArrayList<>()));
    }

    private boolean either(int slope, List<String> words) {
        boolean holds = both(slope, words);
        while (!words.isEmpty() && words.get(0).equals("or")) {
            words.remove(0);
            holds = both(slope, words) | holds;
        }
        return holds;
    }

    private boolean both(int slope, List<String> words) {
        boolean holds = part(slope, words);
        while (!words.isEmpty() && words.get(0).equals("and")) {
            words.remove(0);
            holds = part(slope, words) & holds;
        }
        return holds;
    }

    private boolean part(int slope, List<String> words) {
        String word = words.remove(0);
        switch (word) {
            case "not":
                return !part(slope, words);
            case "(":
                boolean holds = either(slope, words);
                words.remove(0);
                return holds;
            case "open":
                return open(Integer.parseInt(words.remove(0)));
            case "lift":
                return runs(Integer.parseInt(words.remove(0)));
            default:
                int value = quantity(slope, word);
                String sign = words.remove(0);
                int number = Integer.parseInt(words.remove(0));
                return sign.equals("<") ? value < number : sign.equals(">") ? value > number : value == number;
        }
    }

    private int quantity(int slope, String word) {
        if (word.equals("wind")) {
            return wind;
        }
        if (word.equals("hour")) {
            return minute / 60;
        }
        TreeSet<Integer> values = new TreeSet<>();
        for (int[] cell : cells) {
            if (cell[5] == slope) {
                values.add(word.equals("worn") ? cell[3] : depth(cell));
            }
        }
        return (word.equals("worn") ? values.last() : values.first()) / 100;
    }

    private static int depth(int[] cell) {
        return cell[0] + cell[1] + cell[2] + cell[3];
    }

    boolean runs(int lift) {
        in(lift, lifts.size());
        return !(stopped.get(lift) || wind > lifts.get(lift)[4]);
    }

    void wind(int v) {
        number(v, 0, 300);
        wind = v;
    }

    boolean stop(int lift, boolean on) {
        in(lift, lifts.size());
        return stopped.set(lift, on) != on;
    }

    int group(int size, int skill, int place) {
        in(place, 10);
        number(size, 1, 4);
        number(skill, 0, 9);
        full(groups.size() == 60);
        groups.add(new int[] {size, skill, 0, place, 0, 0, 0});
        return groups.size() - 1;
    }

    int step(int minutes) {
        number(minutes, 0, 600);
        for (int k = 0; k < minutes; k++) {
            minute();
        }
        return minute;
    }

    private void minute() {
        boolean[] open = new boolean[slopes.size()];
        for (int k = 0; k < open.length; k++) {
            open[k] = open(k);
        }
        boolean[] runs = new boolean[lifts.size()];
        for (int k = 0; k < runs.length; k++) {
            runs[k] = runs(k);
        }
        for (int[] group : groups) {
            if (group[2] >= 2 && --group[4] == 0) {
                group[3] = (group[2] == 2 ? lifts : slopes).get(group[3])[1];
                group[2] = 0;
            }
        }
        for (int k = 0; k < groups.size(); k++) {
            if (groups.get(k)[2] == 0) {
                leave(k, open, runs);
            }
        }
        for (int k = 0; k < runs.length; k++) {
            int seats = lifts.get(k)[2];
            while (runs[k] && !rows.get(k).isEmpty() && groups.get(rows.get(k).get(0))[0] <= seats) {
                int[] group = groups.get(rows.get(k).remove(0));
                seats -= group[0];
                group[2] = 2;
                group[4] = lifts.get(k)[3];
                group[5]++;
            }
        }
        minute++;
    }

    private void leave(int number, boolean[] open, boolean[] runs) {
        int[] group = groups.get(number);
        for (int steep = group[1]; steep >= 0; steep--) {
            for (int k = 0; k < open.length; k++) {
                int[] slope = slopes.get(k);
                if (open[k] && slope[0] == group[3] && slope[3] == steep) {
                    group[2] = 3;
                    group[3] = k;
                    group[4] = slope[2];
                    group[6]++;
                    wear(k, group[0] * (1 + steep));
                    return;
                }
            }
        }
        for (int wait = 0; wait <= 240; wait++) {
            for (int k = 0; k < runs.length; k++) {
                if (runs[k] && lifts.get(k)[0] == group[3] && waiting(k) == wait) {
                    group[2] = 1;
                    group[3] = k;
                    rows.get(k).add(number);
                    return;
                }
            }
        }
    }

    private int waiting(int lift) {
        int sum = 0;
        for (int number : rows.get(lift)) {
            sum += groups.get(number)[0];
        }
        return sum;
    }

    private void wear(int slope, int each) {
        for (int[] cell : cells) {
            for (int n = 0; cell[5] == slope && n < each; n++) {
                int kind = cell[2] > 0 ? 2 : cell[1] > 0 ? 1 : 0;
                if (cell[kind] > 0) {
                    cell[kind]--;
                    cell[3]++;
                    sums[3]++;
                }
            }
        }
    }

    int look(int group, int what) {
        in(group, groups.size());
        if (what < 0 || what > 4) {
            throw new NoSuchElementException();
        }
        return groups.get(group)[what + 2];
    }

    int row(int lift, int k) {
        in(lift, lifts.size());
        return k >= 0 && k < rows.get(lift).size() ? rows.get(lift).get(k) : -1;
    }

    int people(int what) {
        int sum = 0;
        for (int[] group : groups) {
            sum += group[2] == what ? group[0] : 0;
        }
        return what < 0 || what > 3 ? -1 : sum;
    }

    int snow(int cell, boolean made, int hundredths) {
        in(cell, cells.size());
        number(hundredths, 0, 100000);
        cells.get(cell)[made ? 1 : 0] += hundredths;
        sums[made ? 1 : 0] += hundredths;
        return depth(cells.get(cell));
    }

    int melt(int cell, int hundredths) {
        in(cell, cells.size());
        number(hundredths, 0, 1000000);
        int melted = 0;
        for (int kind = 0; kind < 4; kind++) {
            int part = Math.min(cells.get(cell)[kind], hundredths - melted);
            cells.get(cell)[kind] -= part;
            melted += part;
        }
        sums[2] += melted;
        return melted;
    }

    int push(int cell) {
        in(cell, cells.size());
        int[] told = cells.get(cell);
        int other = told[0] + told[1] + told[3];
        told[2] += other;
        told[0] = told[1] = told[3] = 0;
        return other;
    }

    int cell(int cell, int what) {
        in(cell, cells.size());
        if (what < 0 || what > 7) {
            throw new NoSuchElementException();
        }
        return what == 4 ? depth(cells.get(cell)) : cells.get(cell)[what];
    }

    int link(int a, int b, int length) {
        in(a, cells.size());
        in(b, cells.size());
        number(a == b ? 0 : length, 1, 100);
        full(links.size() == 80);
        links.add(new int[] {a, b, length});
        return links.size();
    }

    void want(int cell, int hundredths) {
        in(cell, cells.size());
        number(hundredths, 0, 1000000);
        cells.get(cell)[6] = hundredths;
    }

    void price(int cell, int v) {
        in(cell, cells.size());
        number(v, -10000, 10000);
        cells.get(cell)[7] = v;
    }

    long judge() {
        for (int[] link : links) {
            int apart = cells.get(link[0])[7] - cells.get(link[1])[7];
            if (apart > link[2] || -apart > link[2]) {
                throw new IllegalStateException();
            }
        }
        long told = 0;
        for (int[] cell : cells) {
            long missing = Math.max(0, cell[6] - depth(cell));
            long over = Math.max(0, depth(cell) - cell[6]);
            told += missing * cell[7];
            told -= cell[7] > 0 ? over * cell[7] : 0;
        }
        return told;
    }

    /** Any way that serves all, then circles that cost less than nothing are taken out of it until there is none. */
    long least() {
        int nodes = cells.size() + 2;
        List<long[]> arcs = new ArrayList<>();
        long due = 0;
        for (int k = 0; k < cells.size(); k++) {
            long over = (long) depth(cells.get(k)) - cells.get(k)[6];
            if (over > 0) {
                arc(arcs, nodes - 2, k, over, 0);
            } else {
                arc(arcs, k, nodes - 1, -over, 0);
                due -= over;
            }
        }
        for (int[] link : links) {
            arc(arcs, link[0], link[1], Long.MAX_VALUE / 4, link[2]);
            arc(arcs, link[1], link[0], Long.MAX_VALUE / 4, link[2]);
        }
        for (long part = 1; part > 0; due -= part) {
            part = augment(arcs, nodes);
        }
        while (due == 0 && cancel(arcs, nodes)) {
            continue;
        }
        long sum = 0;
        for (int k = 0; k < arcs.size(); k += 2) {
            sum += arcs.get(k + 1)[2] * arcs.get(k)[3];
        }
        return due > 0 ? -1 : sum;
    }

    /** An arc and its back, of which just what goes on the arc may be taken away. */
    private static void arc(List<long[]> arcs, int from, int to, long most, long cost) {
        arcs.add(new long[] {from, to, most, cost});
        arcs.add(new long[] {to, from, 0, -cost});
    }

    private static long augment(List<long[]> arcs, int nodes) {
        int[] via = new int[nodes];
        java.util.Arrays.fill(via, -1);
        boolean more = true;
        while (more && via[nodes - 1] == -1) {
            more = false;
            for (int k = 0; k < arcs.size(); k++) {
                long[] arc = arcs.get(k);
                int from = (int) arc[0];
                int to = (int) arc[1];
                if (arc[2] > 0 && to != nodes - 2 && via[to] == -1 && (from == nodes - 2 || via[from] != -1)) {
                    via[to] = k;
                    more = true;
                }
            }
        }
        return via[nodes - 1] == -1 ? 0 : send(arcs, via, nodes - 1, nodes - 2);
    }

    private static boolean cancel(List<long[]> arcs, int nodes) {
        long[] far = new long[nodes];
        int[] via = new int[nodes];
        int last = -1;
        for (int round = 0; round <= nodes; round++) {
            last = -1;
            for (int k = 0; k < arcs.size(); k++) {
                long[] arc = arcs.get(k);
                if (arc[2] > 0 && far[(int) arc[0]] + arc[3] < far[(int) arc[1]]) {
                    last = (int) arc[1];
                    far[last] = far[(int) arc[0]] + arc[3];
                    via[last] = k;
                }
            }
        }
        if (last == -1) {
            return false;
        }
        for (int k = 0; k < nodes; k++) {
            last = (int) arcs.get(via[last])[0];
        }
        send(arcs, via, last, last);
        return true;
    }

    private static long send(List<long[]> arcs, int[] via, int end, int begin) {
        long part = Long.MAX_VALUE;
        int at = end;
        do {
            part = Math.min(part, arcs.get(via[at])[2]);
            at = (int) arcs.get(via[at])[0];
        } while (at != begin);
        at = end;
        do {
            arcs.get(via[at])[2] -= part;
            arcs.get(via[at] ^ 1)[2] += part;
            at = (int) arcs.get(via[at])[0];
        } while (at != begin);
        return part;
    }

    long count(int what) {
        long there = 0;
        for (int[] cell : cells) {
            there += depth(cell);
        }
        long[] all = {lifts.size(), slopes.size(), cells.size(), groups.size(), minute, links.size(), wind,
            sums[0], sums[1], sums[2], there, sums[3]};
        return what < 0 || what >= all.length ? -1 : all[what];
    }
}
