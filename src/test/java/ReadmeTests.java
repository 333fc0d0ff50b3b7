import java.io.IOException;
import java.nio.file.Files;
import java.nio.file.Path;
import java.util.Set;
import java.util.TreeSet;
import java.util.regex.Matcher;
import java.util.regex.Pattern;

/** The example in README.md uses every call, and each answer that it tells is the one given. */
public final class ReadmeTests {
    private static final Pattern CALL =
        Pattern.compile("terrain\\.(\\w+)\\(([-\\d, ]*)\\);(?: *// (-?\\d+|BAD_CELL|BAD_HEIGHT)\\b)?.*");
    private static final Set<String> NAMES = Set.of("set", "shift", "pattern", "height", "level", "volume",
        "lakes", "lakeSize", "pass", "reach", "prominence", "summits");

    private static int wrong = 0;

    private static void check(boolean holds, String fault) {
        if (!holds) {
            wrong++;
            System.out.println(fault);
        }
    }

    private static int answer(FloodTerrain x, String name, int[] a) {
        switch (name) {
            case "set": return x.set(a[0], a[1]);
            case "shift": return x.shift(a[0], a[1], a[2]);
            case "pattern": x.pattern(a[0], a[1]); return 0;
            case "height": return x.height(a[0]);
            case "level": return x.level(a[0]);
            case "volume": return x.volume();
            case "lakes": return x.lakes();
            case "lakeSize": return x.lakeSize(a[0]);
            case "pass": return x.pass(a[0], a[1]);
            case "reach": return x.reach(a[0], a[1]);
            case "prominence": return x.prominence(a[0]);
            case "summits": return x.summits();
            default: throw new IllegalArgumentException(name);
        }
    }

    private static int[] numbers(String list) {
        return list.isBlank() ? new int[0] : Pattern.compile(", *").splitAsStream(list)
            .mapToInt(Integer::parseInt).toArray();
    }

    private static int due(String told) {
        return told.equals("BAD_CELL") ? -1 : told.equals("BAD_HEIGHT") ? -2 : Integer.parseInt(told);
    }

    public static void main(String[] args) throws IOException {
        FloodTerrain x = new FloodTerrain();
        Set<String> used = new TreeSet<>();
        for (String line : Files.readAllLines(Path.of("README.md"))) {
            if (!line.startsWith("terrain.")) {
                continue;
            }
            Matcher call = CALL.matcher(line);
            if (!call.matches()) {
                check(false, "not understood: " + line);
                continue;
            }
            used.add(call.group(1));
            int got = answer(x, call.group(1), numbers(call.group(2)));
            boolean answers = !call.group(1).equals("pattern");
            check(answers == (call.group(3) != null), "an answer is told for each call but pattern: " + line);
            if (answers && call.group(3) != null) {
                check(got == due(call.group(3)), "answered " + got + ": " + line);
            }
        }
        check(used.equals(NAMES), "README.md uses " + used);
        System.out.println(wrong == 0 ? "the example is as due" : wrong + " faults");
        if (wrong != 0) {
            System.exit(1);
        }
    }
}
