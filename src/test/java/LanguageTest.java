import java.io.IOException;
import java.nio.file.Files;
import java.nio.file.Path;
import java.util.regex.Matcher;
import java.util.regex.Pattern;

/** Those rules of LANGUAGE.md that can be read off the words of the source. Run from the project's folder. */
public final class LanguageTest {
    private static final Path SOURCE = Path.of("src", "main", "java", "PolygonFill.java");
    private static final String[] RULED_OUT = {
        "package", "import", "float", "double", "null", "throw", "throws", "try", "catch", "synchronized", "assert",
        "instanceof", "interface", "enum", "record", "protected", "native",
        "String", "Math", "Integer", "System", "Arrays", "Object"};

    private static final Due due = new Due();

    public static void main(String[] args) throws IOException {
        String code = withoutComments(Files.readString(SOURCE));
        for (String word : RULED_OUT) {
            due.holds("rules 1 to 6: no " + word, !has(code, "\\b" + word + "\\b"));
        }
        due.is("rule 1: classes", code.split("\\bclass\\b", -1).length - 1, 1);
        due.holds("rule 2: no text", code.indexOf('"') < 0);
        due.holds("rule 4: arrays of one dimension", !has(code, "\\]\\s*\\["));
        due.holds("rule 6: no lambda or method reference", !has(code, "->|::"));
        due.holds("rule 5: static fields are constants", !has(code, "static\\s*\\{|static\\s+(?!final)\\w+\\s+\\w+\\s*[=;]"));
        everyNewIsAFieldsInitialiser(code);
        due.end();
    }

    private static String withoutComments(String text) {
        return text.replaceAll("(?s)/\\*.*?\\*/", " ").replaceAll("//[^\n]*", " ");
    }

    private static boolean has(String code, String pattern) {
        return Pattern.compile(pattern).matcher(code).find();
    }

    private static void everyNewIsAFieldsInitialiser(String code) {
        Matcher makes = Pattern.compile("[^\n]*\\bnew\\b[^\n]*").matcher(code);
        while (makes.find()) {
            String line = makes.group();
            due.holds("rule 4: a field's initialiser: " + line.trim(),
                line.matches("    private final (int|boolean)\\[\\] \\w+ = new (int|boolean)\\[[A-Z_0-9]+\\];"));
        }
    }
}
