import java.io.IOException;
import java.nio.file.Files;
import java.nio.file.Path;
import java.util.List;
import java.util.regex.Matcher;
import java.util.regex.Pattern;

/** The rules of LANGUAGE.md that the text of the program shows. Run from the project's root. */
public final class LanguageTest {
    private static final Check CHECK = new Check();
    private static final Path SOURCE = Path.of("src", "main", "java", "SwornLane.java");
    private static final String[] FORBIDDEN = {
        "throw", "throws", "try", "catch", "finally", "synchronized", "assert", "import", "package", "native",
        "volatile", "transient", "protected", "->", "::", "hashCode", "toString", "System\\.(?!arraycopy)",
        "Math\\.\\w+Exact", "Random", "Thread", "goto", "var", "Object"};

    public static void main(String[] args) throws IOException {
        String source = Files.readString(SOURCE);
        plainSigns(source);
        forbiddenWords(withoutCommentsAndTexts(source));
        shortMethods(Files.readAllLines(SOURCE));
        CHECK.end();
    }

    private static void plainSigns(String source) {
        boolean plain = true;
        for (char sign : source.toCharArray()) {
            plain &= sign == '\n' || sign >= 32 && sign <= 126;
        }
        CHECK.so("the source has plain signs alone", plain);
    }

    private static String withoutCommentsAndTexts(String source) {
        return source.replaceAll("(?s)/\\*.*?\\*/", " ").replaceAll("//[^\n]*", " ")
            .replaceAll("\"[^\"\n]*\"", "\"\"").replaceAll("'[^'\n]'", "' '");
    }

    private static void forbiddenWords(String code) {
        for (String word : FORBIDDEN) {
            boolean isWord = Character.isLetter(word.charAt(0));
            Matcher matcher = Pattern.compile(isWord ? "\\b" + word + "(?!\\w)" : word).matcher(code);
            CHECK.so("the program has no " + word, !matcher.find());
        }
    }

    private static void shortMethods(List<String> lines) {
        for (String indent : new String[] {"    ", "        "}) {
            int begun = -1;
            for (int i = 0; i < lines.size(); i++) {
                String line = lines.get(i);
                if (line.matches(indent + "\\S.*\\) \\{")) {
                    begun = i;
                }
                if (line.equals(indent + "}") && begun >= 0) {
                    CHECK.so("the method at line " + (begun + 1) + " is short", i - begun < 60);
                    begun = -1;
                }
            }
        }
    }
}
