import java.io.IOException;
import java.nio.file.Files;
import java.nio.file.Path;
import java.util.ArrayList;
import java.util.List;
import java.util.regex.Matcher;
import java.util.regex.Pattern;

/** README.md's lines of Java: they stand below with the answers that it tells, and no line is missing here or there. */
public final class ReadmeTest {
    private static final Pattern TOLD = Pattern.compile("(-?\\d+|true|false): .*");
    private static final Pattern NAMED = Pattern.compile("\\w+ (\\w+) = .*");

    private static int answers = 0;

    private ReadmeTest() {
    }

    private static void due(long got, long want) {
        answers++;
        Check.due("README.md's call with answer " + answers, got, want);
    }

    private static void due(boolean got, boolean want) {
        due(got ? 1 : 0, want ? 1 : 0);
    }

    private static void lines() {
        // README.md begins
        SoundLine desk = new SoundLine();
        due(desk.spelling(0, 11 | 1 << 5, 0), 1);
        due(desk.spelling(1, 14 | 1 << 5, 0), 1);
        due(desk.spelling(2, 11 | 1 << 5 | 14 << 10, 3), 1);
        due(desk.spelling(3, 1, 0), 1);
        int kana = desk.word(1 | 2 << 6, 5, 0, SoundLine.NONE);
        due(kana, 0);
        int kan = desk.word(3, 7 | 8 << 14, 1, 2);
        due(kan, 1);
        int a = desk.ending(4, 9, 2, 5);
        due(a, 0);
        due(desk.price(0, 25), 30);
        due(desk.step(1, 1, 4), 0);
        for (int letter : new int[] {11, 1, 14, 1, 11, 1, 14, 1, 26}) {
            desk.type(letter);
        }
        due(desk.typed(SoundLine.NONE), 9);
        due(desk.typed(8), 26);
        due(desk.cost(), 270);
        due(desk.parts(), 3);
        due(desk.part(0, 1), 4);
        due(desk.part(2, 2), -1);
        due(desk.sign(SoundLine.NONE), 3);
        due(desk.sign(0), 5);
        due(desk.sign(2), 20026);
        due(desk.choices(0), 2);
        due(desk.choice(0, 1, 0), 1);
        due(desk.choice(0, 1, 1), 0);
        due(desk.choice(0, 1, 2), 278);
        desk.choose(0, 1);
        due(desk.part(0, 6), 1);
        due(desk.sign(1), 8);
        due(desk.setBreak(3, 1), 2);
        due(desk.about(4), 0);
        due(desk.back(), true);
        due(desk.about(4), 1);
        due(desk.free(), 1);
        due(desk.back(), true);
        due(desk.take(), 3);
        due(desk.typed(SoundLine.NONE), 0);
        due(desk.count(kan), 1);
        due(desk.pairs(1, 0), 1);
        due(desk.unlearn(), 0);
        due(desk.count(kan), 0);
        due(desk.type(1), 1);
        due(desk.empty(), 1);
        // README.md ends
    }

    /** A line of README.md as it must stand above. */
    private static List<String> asTested(String line) {
        int behind = line.indexOf("//");
        String code = (behind < 0 ? line : line.substring(0, behind)).trim();
        Matcher told = TOLD.matcher(behind < 0 ? "" : line.substring(behind + 2).trim());
        if (!told.matches()) {
            return List.of(code);
        }
        Matcher named = NAMED.matcher(code);
        String call = code.substring(0, code.length() - 1);
        return named.matches() ? List.of(code, "due(" + named.group(1) + ", " + told.group(1) + ");")
                : List.of("due(" + call + ", " + told.group(1) + ");");
    }

    private static List<String> told() throws IOException {
        List<String> found = new ArrayList<>();
        boolean java = false;
        for (String line : Files.readAllLines(Path.of("README.md"))) {
            boolean fence = line.startsWith("```");
            if (java && !fence) {
                found.addAll(asTested(line));
            }
            java = fence ? line.equals("```java") : java;
        }
        return found;
    }

    private static List<String> tested() throws IOException {
        List<String> found = new ArrayList<>();
        boolean within = false;
        for (String line : Files.readAllLines(Path.of("src/test/java/ReadmeTest.java"))) {
            boolean ends = line.trim().equals("// README.md ends");
            if (within && !ends) {
                found.add(line.trim());
            }
            within = line.trim().equals("// README.md begins") || within && !ends;
        }
        return found;
    }

    public static void main(String[] args) throws IOException {
        lines();
        Check.same("README.md's Java", String.join("\n", told()), String.join("\n", tested()));
        Check.end();
    }
}
