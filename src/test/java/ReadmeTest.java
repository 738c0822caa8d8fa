import java.io.IOException;
import java.nio.file.Files;
import java.nio.file.Path;
import java.util.ArrayList;
import java.util.List;
import java.util.stream.Stream;

/** What README.md says: its examples stand here line by line and are run, and its tables leave nothing out. */
public final class ReadmeTest {
    private static final Checks CHECKS = new Checks();
    private static final int NONE = BasketEnvoys.NONE;

    public static void main(String[] args) throws IOException {
        List<String> page = Files.readAllLines(Path.of("README.md"));
        examplesStandHere(page);
        aDay();
        texts();
        answersOfTowns();
        answersInThought();
        argumentsOfNone();
        tablesAreWhole(String.join("\n", page));
        CHECKS.finish();
    }

    private static void examplesStandHere(List<String> page) throws IOException {
        List<String> here = new ArrayList<>();
        for (String line : Files.readAllLines(Path.of("src/test/java/ReadmeTest.java"))) {
            here.add(line.trim());
        }
        boolean inExample = false;
        int lines = 0;
        for (String line : page) {
            boolean fence = line.startsWith("```");
            inExample = fence ? line.equals("```java") : inExample;
            if (inExample && !fence && !line.isBlank()) {
                lines++;
                CHECKS.due("stands in ReadmeTest: " + line.trim(), here.contains(line.trim()), true);
            }
        }
        CHECKS.due("the page has examples", lines > 30, true);
    }

    private static void aDay() {
        BasketEnvoys town = new BasketEnvoys();     // no powers, no envoys, 10 ports, day 0
        int power = town.power(30);                 // 0: the number of a power with TRUST 30
        int envoy = town.mute(9, 0, false);         // 0: the number of a mute with SKILL 9, no GRIEF, not FALSE
        boolean put = town.act(2, envoy, 3);        // true: thing 3 lies in his basket
        boolean sent = town.act(0, envoy, power);   // true: he is at the power
        int chance = town.of(envoy, 8);             // 690: in how many of 1000 draws it nods at that thing
        int nods = town.days(1);                    // 1: a day went by, and it nodded
        int trust = town.powerOf(power, 0);         // 31
        boolean undone = town.undo();               // true: the day is undone
        int day = town.look(4);                     // 0
        CHECKS.due("power", power, 0);
        CHECKS.due("envoy", envoy, 0);
        CHECKS.due("put", put, true);
        CHECKS.due("sent", sent, true);
        CHECKS.due("chance", chance, 690);
        CHECKS.due("nods", nods, 1);
        CHECKS.due("trust", trust, 31);
        CHECKS.due("undone", undone, true);
        CHECKS.due("day", day, 0);
    }

    private static void texts() {
        BasketEnvoys town = new BasketEnvoys();
        town.power(30);
        town.mute(9, 0, false);
        int law = tell(town, 0, "nods 900 when trust > 20 and not ports = 0; wins skill / 3 + 1;");   // 2
        int tongues = tell(town, 1, "power 0 thing 3 says 5; power 0 thing 7 says 5;");               // 2
        int court = tell(town, 2, "on 0 send 0 0; on 4 gift 0 10; on 5 mourn 0 2; on 6 home 0;");     // 4
        int wants = tell(town, 3, "power 0 wants 5 5;");                                              // 1
        int refused = tell(town, 3, "power 0 wants 5 x;");                                            // NONE
        int fault = town.fault(0);                                                                    // 1: what can't stand there
        int place = town.fault(1);                                                                    // 16: the x
        int wanted = town.powerOf(0, 4);                                                              // 2: the text stayed as it was
        CHECKS.due("law", law, 2);
        CHECKS.due("tongues", tongues, 2);
        CHECKS.due("court", court, 4);
        CHECKS.due("wants", wants, 1);
        CHECKS.due("refused", refused, NONE);
        CHECKS.due("fault", fault, 1);
        CHECKS.due("place", place, 16);
        CHECKS.due("wanted", wanted, 2);
        CHECKS.due("a text of 400 bytes", tell(town, 0, "nods 1;" + " ".repeat(393)), 1);
    }

    static int tell(BasketEnvoys town, int k, String text) {
        town.end(0);
        for (int i = 0; i < text.length(); i += 20) {
            town.feed(four(text, i), four(text, i + 4), four(text, i + 8), four(text, i + 12), four(text, i + 16));
        }
        town.end(text.length());
        return town.text(k);
    }

    static int four(String text, int from) {
        int number = 0;
        for (int i = from; i < from + 4; i++) {
            number = number << 8 | (i < text.length() ? text.charAt(i) : ' ');
        }
        return number;
    }

    private static void answersOfTowns() {
        BasketEnvoys town = new BasketEnvoys();
        CHECKS.due("nothing to undo", town.undo(), false);
        CHECKS.due("no image", town.image(false), false);
        CHECKS.due("no such text", town.text(4), NONE);
        CHECKS.due("its fault", town.fault(0), 0);
        CHECKS.due("no fault's place", town.fault(1), NONE);
        CHECKS.due("no such mute", town.of(0, 0), NONE - 1);
        CHECKS.due("no such power", town.powerOf(0, 0), NONE - 1);
        town.power(0);
        town.mute(0, 0, false);
        CHECKS.due("another what of a mute", town.of(0, 18), NONE - 1);
        CHECKS.due("another what of a power", town.powerOf(0, 6), NONE - 1);
        CHECKS.due("at home", town.of(0, 3), NONE);
        CHECKS.due("nods at home", town.of(0, 8), NONE);
        CHECKS.due("no such thing", town.of(0, 10), NONE);
        CHECKS.due("no such meaning", town.powerOf(0, 10), NONE);
        town.act(0, 0, 0);
        CHECKS.due("wins, nothing left to show", town.of(0, 9), NONE);
        CHECKS.due("state, what it was", town.state(-1), 0);
        CHECKS.due("state as it is", town.look(8), -1);
        CHECKS.due("six can be undone", town.days(8) == 0 && town.look(13) == 6, true);
    }

    private static void answersInThought() {
        BasketEnvoys town = new BasketEnvoys();
        town.power(0);
        CHECKS.due("no treaty within 60 days", town.peace(0), NONE);
        CHECKS.due("wants nothing", town.lightest(0, 0), 0);
        tell(town, 3, "power 0 wants 15;");
        CHECKS.due("no such row", town.lightest(0, 0), NONE);
        CHECKS.due("who begins loses", town.silence(1, 1, 0, false), NONE);
        CHECKS.due("nothing lies", town.silence(0, 0, 0, false), NONE);
        for (int how = 0; how < 4; how++) {
            town.promise(0, 1, how);
        }
        CHECKS.due("no way to keep all", town.kept(1), NONE);
        for (int cell = 0; cell < 9; cell++) {
            boolean alike = (cell / 3 + cell % 3) % 2 == 0;
            town.table(0, cell, alike ? 1 : -1);
            town.table(1, cell, alike ? -1 : 1);
        }
        CHECKS.due("no cell rests", town.tables(1), NONE);
        CHECKS.due("another what of the tables", town.tables(3), NONE - 99);
    }

    private static void argumentsOfNone() {
        BasketEnvoys town = new BasketEnvoys();
        int told = town.shows(1) + town.hears(NONE - 1) + town.count(1) + town.load(1, 1) + town.promise(0, 1, 0)
            + town.border(0, 1) + town.cloth(0, 1) + town.cloth(1, 1) + town.interpreter(12340);
        CHECKS.due("one of each", told, 9);
        CHECKS.due("the fewest colours", town.map(NONE), 2);
        CHECKS.due("the rounds", town.word(NONE), 5);
        CHECKS.due("things", town.shows(NONE), 0);
        CHECKS.due("meanings", town.hears(NONE), 0);
        CHECKS.due("counts", town.count(NONE), 0);
        CHECKS.due("loads", town.load(NONE, 1), 0);
        CHECKS.due("promises", town.promise(NONE, 1, 0), 0);
        CHECKS.due("borders", town.border(NONE, 1), 0);
        CHECKS.due("cloths", town.cloth(0, NONE) + town.cloth(1, NONE), 0);
        CHECKS.due("interpreters", town.interpreter(NONE), 0);
    }

    private static void tablesAreWhole(String page) throws IOException {
        try (Stream<Path> files = Files.list(Path.of("src/test/java"))) {
            for (Path file : files.toList()) {
                String name = file.getFileName().toString();
                if (name.endsWith("Test.java")) {
                    CHECKS.due("the page tells of " + name, page.contains("| `" + name.replace(".java", "") + "` |"), true);
                }
            }
        }
        for (Class<?> inside : BasketEnvoys.class.getDeclaredClasses()) {
            CHECKS.due("the page tells of " + inside, page.contains("`" + inside.getSimpleName() + "`"), true);
        }
        CHECKS.due("the page tells how many calls", page.contains("at most 512 calls"), true);
    }
}
