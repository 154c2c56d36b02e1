import java.io.IOException;
import java.lang.reflect.Method;
import java.lang.reflect.Modifier;
import java.nio.charset.StandardCharsets;
import java.nio.file.Files;
import java.nio.file.Path;
import java.util.ArrayList;
import java.util.Comparator;
import java.util.List;
import java.util.regex.Matcher;
import java.util.regex.Pattern;
import java.util.stream.Stream;

/** What README.md says holds when it is done word for word on a clean checkout. */
public final class ReadmeTest {
    /** The command that runs this test too, so that it cannot be run from here. */
    private static final String ALL_TESTS = ".ci/run\n";

    /** A block between fences, and the language that it bears. */
    private static final Pattern BLOCK = Pattern.compile("^```(\\w+)\n(.*?)^```$", Pattern.MULTILINE | Pattern.DOTALL);

    /** A row of the table of calls: the name, the arguments, and what is thrown. */
    private static final Pattern CALL = Pattern.compile("^\\| `(\\w+)\\((.*?)\\)` \\| .* \\| ([IAS ]*)\\|$", Pattern.MULTILINE);

    private static final Pattern TEST = Pattern.compile("^\\| (\\w+Test) \\| .* \\|$", Pattern.MULTILINE);

    private static int wrong = 0;

    public static void main(String[] args) throws IOException, InterruptedException {
        String page = Files.readString(Path.of("README.md"));
        Path place = Files.createTempDirectory("readme");
        try {
            Path checkout = checkOut(place);
            doBlocks(page, checkout);
        } finally {
            remove(place);
        }
        holds("the shell may run .ci/run", Files.isExecutable(Path.of(".ci/run")));
        same("the calls of the table", faceOf(StenoRooms.class), callsOf(page));
        same("the tests of the table", testsThere(), testsOf(page));
        System.out.println("ReadmeTest: " + (wrong == 0 ? "all as due" : wrong + " not as due"));
        if (wrong != 0) {
            System.exit(1);
        }
    }

    /** A checkout with the sources alone, and ../shared beside it. */
    private static Path checkOut(Path place) throws IOException {
        Path checkout = Files.createDirectory(place.resolve("main"));
        Files.createSymbolicLink(place.resolve("shared"), Path.of("../shared").toRealPath());
        for (Path file : filesUnder(Path.of("src"))) {
            Path copy = checkout.resolve(file.toString());
            Files.createDirectories(copy.getParent());
            Files.copy(file, copy);
        }
        return checkout;
    }

    private static void doBlocks(String page, Path checkout) throws IOException, InterruptedException {
        String printed = "";
        int commands = 0;
        boolean allTests = false;
        Matcher block = BLOCK.matcher(page);
        while (block.find()) {
            String words = block.group(2);
            switch (block.group(1)) {
                case "java":
                    same("the example", Files.readString(Path.of("src/test/java/Example.java")), words);
                    break;
                case "sh":
                    commands++;
                    allTests |= words.equals(ALL_TESTS);
                    printed = words.equals(ALL_TESTS) ? "" : shell(words, checkout);
                    break;
                case "text":
                    same("what the commands ahead of it print", words, printed);
                    break;
                default:
                    holds("a block is java, sh or text", false);
                    break;
            }
        }
        holds("there are blocks of commands, one of them " + ALL_TESTS.trim(), commands > 1 && allTests);
    }

    /** Runs each line as a command of its own; answers what they print. */
    private static String shell(String lines, Path checkout) throws IOException, InterruptedException {
        StringBuilder printed = new StringBuilder();
        for (String line : lines.split("\n")) {
            Process p = new ProcessBuilder("sh", "-c", line).directory(checkout.toFile()).redirectErrorStream(true).start();
            String words = new String(p.getInputStream().readAllBytes(), StandardCharsets.UTF_8);
            int code = p.waitFor();
            holds("'" + line + "' ends with 0, not " + code + "\n" + words, code == 0);
            printed.append(words);
        }
        return printed.toString();
    }

    /** The public methods, each with the number of its arguments and the first letters of what it throws. */
    private static String faceOf(Class<?> program) {
        List<String> face = new ArrayList<>();
        for (Method m : program.getDeclaredMethods()) {
            if (Modifier.isPublic(m.getModifiers())) {
                StringBuilder thrown = new StringBuilder();
                for (Class<?> e : m.getExceptionTypes()) {
                    thrown.append(letterOf(e)).append(' ');
                }
                face.add(m.getName() + "/" + m.getParameterCount() + " " + thrown);
            }
        }
        return sorted(face);
    }

    private static char letterOf(Class<?> exception) {
        if (exception == IndexOutOfBoundsException.class) {
            return 'I';
        }
        return exception == IllegalArgumentException.class ? 'A' : 'S';
    }

    private static String callsOf(String page) {
        List<String> calls = new ArrayList<>();
        Matcher row = CALL.matcher(page);
        while (row.find()) {
            int arguments = row.group(2).isEmpty() ? 0 : row.group(2).split(", ").length;
            calls.add(row.group(1) + "/" + arguments + " " + row.group(3));
        }
        return sorted(calls);
    }

    private static String testsThere() throws IOException {
        List<String> tests = new ArrayList<>();
        for (Path file : filesUnder(Path.of("src/test/java"))) {
            String name = file.getFileName().toString();
            if (name.endsWith("Test.java")) {
                tests.add(name.substring(0, name.length() - ".java".length()));
            }
        }
        return sorted(tests);
    }

    private static String testsOf(String page) {
        List<String> tests = new ArrayList<>();
        Matcher row = TEST.matcher(page);
        while (row.find()) {
            tests.add(row.group(1));
        }
        return sorted(tests);
    }

    private static String sorted(List<String> names) {
        names.sort(Comparator.naturalOrder());
        return String.join("\n", names);
    }

    private static List<Path> filesUnder(Path top) throws IOException {
        try (Stream<Path> files = Files.walk(top)) {
            return files.filter(Files::isRegularFile).toList();
        }
    }

    private static void remove(Path place) throws IOException {
        try (Stream<Path> all = Files.walk(place)) {
            for (Path path : all.sorted(Comparator.reverseOrder()).toList()) {
                Files.delete(path);
            }
        }
    }

    private static void same(String what, String due, String found) {
        holds(what + " should be\n" + due + "\nand is\n" + found, due.equals(found));
    }

    private static void holds(String what, boolean does) {
        if (!does) {
            wrong++;
            System.out.println("not so: " + what);
        }
    }
}
