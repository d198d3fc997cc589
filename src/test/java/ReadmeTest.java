import java.io.IOException;
import java.nio.file.Files;
import java.nio.file.Path;
import java.util.ArrayList;
import java.util.List;

/** The examples of README.md, which must stand here as they stand there; run from the project's folder. */
public final class ReadmeTest {
    public static void main(String[] args) throws IOException {
        dayAndRule();
        carrying();
        samePlaces();
        Check.close();
    }

    private static void dayAndRule() {
        SkiHill hill = new SkiHill();
        int lift = hill.lift(0, 1, 4, 2, 50);       // from place 0 to 1, 4 seats a minute, 2 minutes, up to wind 50
        int slope = hill.slope(1, 0, 3, 2, 1);      // from place 1 to 0, 3 minutes, steep 2, one cell
        int group = hill.group(3, 5, 0);            // 3 people of skill 5 at place 0
        int depth = hill.snow(0, false, 1000);      // 1000: 10.00 of snow fell on cell 0
        int minute = hill.step(3);                  // 3: so many minutes went by
        int does = hill.look(group, 0);             // 3: 0 free, 1 waits, 2 rides, 3 is on a slope
        int worn = hill.cell(0, 3);                 // 9: each of the 3 people wore 1 + 2 hundredths
        Check.due("lift", lift, 0);
        Check.due("slope", slope, 0);
        Check.due("group", group, 0);
        Check.due("depth", depth, 1000);
        Check.due("minute", minute, 3);
        Check.due("does", does, 3);
        Check.due("worn", worn, 9);

        hill.feed(0x736e6f77, 0x203e2034, 0, 0, 0); // "snow > 4" and twelve bytes more
        boolean cut = hill.end(8);                  // true: the tape has the first eight alone
        int named = hill.rule(slope);               // 0: the rule names no slope by open
        boolean open = hill.open(slope);            // true: 10.00 of snow lie there
        Check.due("cut", cut, true);
        Check.due("named", named, 0);
        Check.due("open", open, true);
        hill.melt(0, 600);
        Check.due("4.00 of snow is not above 4", hill.open(slope), false);
        Check.due("the rule told of", Check.rule(hill, slope, "snow > 4 and not (wind > 30 or lift 0)"), 0);
        Check.due("it holds without snow", hill.open(slope), false);
        hill.snow(0, true, 100);
        Check.due("it holds while the lift runs", hill.open(slope), false);
        hill.stop(lift, true);
        Check.due("it holds with snow and no lift", hill.open(slope), true);
        hill.wind(31);
        Check.due("it holds in wind", hill.open(slope), false);
    }

    private static void carrying() {
        SkiHill other = new SkiHill();
        int three = other.slope(0, 1, 1, 0, 3);     // cells 0, 1 and 2
        int fell = other.snow(0, false, 100);       // 100: so much lies on cell 0, which wants nothing
        other.want(2, 30);                          // cell 2 wants 30 hundredths
        Check.due("without a link", other.least(), SkiHill.NONE);
        int one = other.link(0, 1, 5);              // 1: a link, of length 5
        int two = other.link(1, 2, 2);              // 2: a second one, of length 2
        long least = other.least();                 // 210: 30 hundredths over 5 and 2; -1 if there were no way
        other.price(1, 5);                          // apart by a link's length at most
        other.price(2, 7);
        long told = other.judge();                  // 210: 30 hundredths are missing at a price of 7
        Check.due("three", three, 0);
        Check.due("fell", fell, 100);
        Check.due("one", one, 1);
        Check.due("two", two, 2);
        Check.due("least", least, 210);
        Check.due("told", told, 210);
    }

    private static void samePlaces() throws IOException {
        List<String> here = new ArrayList<>();
        for (String line : Files.readAllLines(Path.of("src/test/java/ReadmeTest.java"))) {
            here.add(line.trim());
        }
        boolean inside = false;
        int lines = 0;
        for (String line : Files.readAllLines(Path.of("README.md"))) {
            if (line.startsWith("```")) {
                inside = line.equals("```java");
            } else if (inside) {
                Check.due("README.md's line is tested: " + line, here.contains(line.trim()), true);
                lines++;
            }
        }
        Check.due("lines of README.md's examples", lines > 0, true);
    }
}
