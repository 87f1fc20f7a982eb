import java.io.IOException;
import java.lang.reflect.Method;
import java.nio.file.Files;
import java.nio.file.Path;
import java.util.ArrayList;
import java.util.List;
import java.util.Set;
import java.util.TreeSet;
import java.util.regex.Matcher;
import java.util.regex.Pattern;
import java.util.stream.Stream;

/** README.md says what holds: its example, a row for each promise of the document and one for each test. */
public final class ReadmeTest {
    private static final Pattern CALL = Pattern.compile("s\\.(\\w+)\\(([^)]*)\\);\\s*// (\\S+?)(:.*)?");

    public static void main(String[] args) throws ReflectiveOperationException, IOException {
        String readme = Files.readString(Path.of("README.md"));
        String document = Files.readString(Path.of("../shared/DOC.md"));
        Set<String> called = exampleAnswers(block(readme, "java"));
        Check.due("the example makes every call: " + called, called, namesOf(document));
        Check.due("a row for each promise", promiseRows(readme), promises(document));
        Check.due("a row for each test", testRows(readme), testFiles());
        commandsAreTold(readme);
        Check.end();
    }

    private static String block(String text, String kind) {
        int from = text.indexOf("```" + kind + "\n");
        int to = text.indexOf("\n```\n", from);
        Check.due("README.md has a block of " + kind, from >= 0 && to > from, true);
        return from >= 0 && to > from ? text.substring(from + 4 + kind.length(), to) : "";
    }

    private static Set<String> exampleAnswers(String example) throws ReflectiveOperationException {
        StormParting s = new StormParting();
        Set<String> called = new TreeSet<>();
        for (String line : example.split("\n")) {
            if (line.startsWith("//") || line.equals("StormParting s = new StormParting();")) {
                continue;
            }
            Matcher m = CALL.matcher(line);
            boolean isCall = m.matches();
            Check.due("a call with its answer: " + line, isCall, true);
            if (isCall) {
                called.add(m.group(1));
                String got = answer(s, m.group(1), m.group(2));
                Check.due(line + " [answered " + got + "]", got.equals(m.group(3)), true);
            }
        }
        return called;
    }

    private static String answer(StormParting s, String name, String told) throws ReflectiveOperationException {
        List<Object> values = new ArrayList<>();
        for (String value : told.isEmpty() ? new String[0] : told.split(", ")) {
            values.add(value.equals("true") || value.equals("false") ? (Object) Boolean.valueOf(value) : number(value));
        }
        for (Method m : StormParting.class.getMethods()) {
            if (m.getName().equals(name) && m.getParameterCount() == values.size()) {
                String got = m.invoke(s, values.toArray()).toString();
                return got.equals("-1") ? "NONE" : got.equals("-100000000") ? "HIDDEN" : got;
            }
        }
        return "no such call";
    }

    private static Integer number(String told) {
        return told.startsWith("0b") ? Integer.parseInt(told.substring(2), 2) : Integer.decode(told);
    }

    private static Set<String> all(String text, String pattern, String form) {
        Set<String> found = new TreeSet<>();
        Matcher m = Pattern.compile(pattern, Pattern.MULTILINE).matcher(text);
        while (m.find()) {
            found.add(m.group().replaceAll(pattern, form));
        }
        return found;
    }

    /** All names of the face but the constructor's. */
    private static Set<String> namesOf(String document) {
        Set<String> names = all(document, "^## Promise \\d+: (\\w+)$", "$1");
        Check.due("promises with a name of one word", names.size(), 24);
        return names;
    }

    /** Each as its number, its name and the names of its parameters. */
    private static Set<String> promises(String document) {
        Set<String> found = new TreeSet<>();
        Matcher m = Pattern.compile("^## Promise (\\d+): .*\n\n`(?:int |boolean )?(\\w+)\\(([^)]*)\\)", Pattern.MULTILINE)
            .matcher(document);
        while (m.find()) {
            found.add(m.group(1) + " " + m.group(2) + "(" + m.group(3).replaceAll("int |boolean ", "") + ")");
        }
        Check.due("promises of the document", found.size(), 25);
        return found;
    }

    private static Set<String> promiseRows(String readme) {
        return all(readme, "^\\| `(\\w+\\([^)]*\\))` \\| (\\d+) \\| .*$", "$2 $1");
    }

    private static Set<String> testRows(String readme) {
        return all(readme, "^\\| (\\w+Test) \\| .*$", "$1");
    }

    private static Set<String> testFiles() throws IOException {
        Set<String> names = new TreeSet<>();
        try (Stream<Path> files = Files.list(Path.of("src/test/java"))) {
            files.map(f -> f.getFileName().toString()).filter(n -> n.endsWith("Test.java"))
                .forEach(n -> names.add(n.substring(0, n.length() - 5)));
        }
        return names;
    }

    /** The commands that run all tests, one of them, and one under ../shared/tests. */
    private static void commandsAreTold(String readme) {
        Set<String> commands = all(readme, "^```sh\n(.*)\n```$", "$1");
        Check.due("commands: " + commands, commands.size(), 3);
        Check.due("the command for all tests", commands.contains(".ci/run") && Files.isExecutable(Path.of(".ci/run")), true);
        for (String command : commands) {
            for (String word : command.split("\\s+")) {
                if (word.endsWith(".java")) {
                    Check.due("there is " + word, Files.exists(Path.of(word)), true);
                }
            }
        }
    }
}
