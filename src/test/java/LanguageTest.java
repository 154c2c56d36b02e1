import java.io.IOException;
import java.nio.file.Files;
import java.nio.file.Path;
import java.util.regex.Matcher;
import java.util.regex.Pattern;

/** Some of the rules of ../shared/LANGUAGE.md that a search in the program's text can see. */
public final class LanguageTest {
    private static final String[] FORBIDDEN = {"->", "::", "Exact\\b", "\\bcatch\\b", "\\bfinally\\b", "\\bassert\\b",
        "\\bsynchronized\\b", "static \\{", "\\.stream\\b", "Math\\.(?!min|max)", "[^\\x00-\\x7f]", "\\bString\\.",
        "import (?!java\\.util\\.Arrays;)", "Arrays\\.(?!copyOf\\()"};

    public static void main(String[] args) throws IOException {
        String program = Files.readString(Path.of("src/main/java/StenoRooms.java"));
        int wrong = 0;
        for (String form : FORBIDDEN) {
            Matcher m = Pattern.compile(form).matcher(program);
            if (m.find()) {
                wrong++;
                System.out.println("the program has '" + m.group() + "', which matches " + form);
            }
        }
        System.out.println("LanguageTest: " + (wrong == 0 ? "all as due" : wrong + " rules broken"));
        if (wrong != 0) {
            System.exit(1);
        }
    }
}
