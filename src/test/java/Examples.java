import java.io.IOException;
import java.nio.charset.StandardCharsets;
import java.nio.file.Files;
import java.nio.file.Path;
import java.util.ArrayList;
import java.util.List;
import java.util.regex.Matcher;
import java.util.regex.Pattern;

/** Reads README.md: the examples that stand between its java fences, and the rows of its tables. */
final class Examples {
    private static final Path README = Path.of("README.md");
    private static final Pattern MAKING = Pattern.compile("Billiardry (\\w+) = new Billiardry\\(\\);");
    private static final Pattern CALL =
        Pattern.compile("(\\w+)\\.(\\w+)\\(([^()]*)\\);\\s+// (throws \\w+|[^\\s:]+)(: .*)?");

    /** A call is empty where the object is made; a line that is neither has no object. */
    record Example(String place, String object, String call, List<String> arguments, String due) {
        boolean isUnread() {
            return object.isEmpty();
        }

        boolean isMaking() {
            return call.isEmpty();
        }
    }

    private Examples() {
    }

    static List<Example> all() throws IOException {
        List<Example> examples = new ArrayList<>();
        List<String> lines = lines();
        boolean isJava = false;
        for (int k = 0; k < lines.size(); k++) {
            String line = lines.get(k);
            if (line.startsWith("```")) {
                isJava = line.equals("```java");
            } else if (isJava) {
                examples.add(read("README.md, line " + (k + 1) + ", '" + line + "'", line));
            }
        }
        return examples;
    }

    private static List<String> lines() throws IOException {
        return Files.readAllLines(README, StandardCharsets.UTF_8);
    }

    private static Example read(String place, String line) {
        Matcher making = MAKING.matcher(line);
        if (making.matches()) {
            return new Example(place, making.group(1), "", List.of(), "");
        }
        Matcher call = CALL.matcher(line);
        if (call.matches()) {
            String arguments = call.group(3);
            List<String> each = arguments.isEmpty() ? List.of() : List.of(arguments.split(", "));
            return new Example(place, call.group(1), call.group(2), each, call.group(4));
        }
        return new Example(place, "", "", List.of(), "");
    }

    /** The rows of all tables with so many columns, less their heads and rules. */
    static List<String[]> rows(int columns) throws IOException {
        List<String[]> rows = new ArrayList<>();
        List<String> lines = lines();
        for (int k = 2; k < lines.size(); k++) {
            boolean isBody = lines.get(k).startsWith("| ") && lines.get(k - 1).startsWith("|");
            String[] cells = lines.get(k).substring(isBody ? 1 : 0).trim().split("\\s*\\|\\s*");
            if (isBody && cells.length == columns) {
                rows.add(cells);
            }
        }
        return rows;
    }
}
