import java.nio.file.Files;
import java.nio.file.Path;
import java.util.ArrayList;
import java.util.HashMap;
import java.util.List;
import java.util.Map;
import java.util.regex.Matcher;
import java.util.regex.Pattern;
import java.util.stream.Collectors;
import java.util.stream.Stream;

/**
 * What README.md says: each call in it has the answer that stands behind it, findings are the numbers that it tells,
 * and its tables list each act of the document and each test of the project.
 */
public final class ReadmeTests {
    private static final Due due = new Due();
    private static final Pattern NEW = Pattern.compile("MarkTreaties x = new MarkTreaties\\(\\);");
    private static final Pattern CALL =
            Pattern.compile("(?:int (\\w+) = )?x\\.(\\w+)\\(([^)]*)\\); +// (-?\\d+)(?:: .*)?");

    public static void main(String[] args) throws Exception {
        String readme = Files.readString(Path.of("README.md"));
        String document = Files.readString(Path.of("../shared/DOC.md"));
        List<String> acts = actsOf(document);
        calls(readme, acts);
        findings(readme);
        acts(readme, acts);
        tests(readme);
        due.end();
    }

    private static List<String> found(String pattern, String text) {
        return Pattern.compile(pattern, Pattern.MULTILINE).matcher(text).results().map(told -> told.group(1))
                .collect(Collectors.toList());
    }

    private static void same(String what, List<String> got, List<String> want) {
        due.is(what + " are " + got + ", due are " + want, got.equals(want) ? 1 : 0, 1);
    }

    /** The face as the document has it, without types: name(argument, argument). */
    private static List<String> actsOf(String document) {
        return found("^    public (?:int|long) (\\w+\\([^)]*\\));$", document).stream()
                .map(act -> act.replace("int ", "")).collect(Collectors.toList());
    }

    /** All calls of README.md are one run. */
    private static void calls(String readme, List<String> acts) {
        Map<String, Integer> names = new HashMap<>();
        List<String> shown = new ArrayList<>();
        MarkTreaties x = null;
        int made = 0;
        for (String block : found("^```java\n((?:(?!```).*\n)*)```$", readme)) {
            for (String line : block.split("\n")) {
                Matcher call = CALL.matcher(line);
                if (NEW.matcher(line).matches()) {
                    x = new MarkTreaties();
                } else if (call.matches() && x != null) {
                    int[] arguments = arguments(call.group(3), names);
                    long got = Due.call(x, call.group(2), arguments);
                    due.is("README.md: " + line, got, Long.parseLong(call.group(4)));
                    names.put(call.group(1), (int) got);
                    shown.add(call.group(2));
                    made++;
                } else {
                    due.is("README.md, a line that is no call with its answer: " + line, 0, 1);
                }
            }
        }
        due.is("README.md has more calls than are promised: " + made, made <= 512 ? 1 : 0, 1);
        for (String act : acts) {
            due.is("README.md shows " + act, shown.contains(act.substring(0, act.indexOf('('))) ? 1 : 0, 1);
        }
    }

    private static int[] arguments(String told, Map<String, Integer> names) {
        return Stream.of(told.split(", ")).filter(each -> !each.isEmpty())
                .mapToInt(each -> names.containsKey(each) ? names.get(each) : Integer.decode(each)).toArray();
    }

    private static void findings(String readme) {
        List<String> told = found("^\\| ((?:BEYOND|FULL|KIND|NONE|STATE|MISSING|SIZE) \\| -\\d+) \\|", readme);
        same("README.md's findings", told, List.of("BEYOND | " + Due.BEYOND, "FULL | " + Due.FULL, "KIND | " + Due.KIND,
                "NONE | " + Due.NONE, "STATE | " + Due.STATE, "MISSING | " + Due.MISSING, "SIZE | " + Due.SIZE));
    }

    private static void acts(String readme, List<String> acts) {
        due.is("the document has no acts", acts.isEmpty() ? 1 : 0, 0);
        same("README.md's acts", found("^\\| `(\\w+\\([^)]*\\))` \\|", readme), acts);
    }

    private static void tests(String readme) throws Exception {
        List<String> listed = found("^\\| (\\w+Tests) \\|", readme);
        try (Stream<Path> files = Files.list(Path.of("src/test/java"))) {
            List<String> there = files.map(file -> file.getFileName().toString()).filter(name -> name.endsWith("Tests.java"))
                    .map(name -> name.replace(".java", "")).sorted().collect(Collectors.toList());
            same("README.md's tests", listed.stream().sorted().collect(Collectors.toList()), there);
        }
        due.is(".ci/run can be run", Files.isExecutable(Path.of(".ci/run")) ? 1 : 0, 1);
    }
}
