import java.io.IOException;
import java.nio.file.Files;
import java.nio.file.Path;
import java.util.regex.Matcher;
import java.util.regex.Pattern;

/** The rules of LANGUAGE.md that can be seen in the text alone; it is run in the project's folder. */
public final class LanguageTest {
    private static final String[] FORBIDDEN = {
        "\\bimport\\b", "\\bpackage\\b", "\\bcatch\\b", "\\bfinally\\b", "\\bsynchronized\\b", "\\bassert\\b", "->",
        "::", "\\bDouble\\b", "\\bCharacter\\b", "\\bBoolean\\b", "Exact\\b", "\\bObjects\\b", "\\bthread", "\\bThread",
        "\\bstatic\\s*\\{", "\\bvar\\b", "\\bvolatile\\b", "System\\.(?!arraycopy)", "Math\\.(?!min|max|abs|floor)",
        "\\bhashCode\\b", "\\bequals\\b", "\\btoString\\b", "\\bextends Exception\\b"
    };

    public static void main(String[] args) throws IOException {
        Check check = new Check("LanguageTest");
        String source = Files.readString(Path.of("src/main/java/ShipLanterns.java"));
        String code = source.replaceAll("(?s)/\\*.*?\\*/", "").replaceAll("//[^\n]*", "")
                .replaceAll("\"[^\"\n]*\"", "\"\"");
        for (String forbidden : FORBIDDEN) {
            Matcher matcher = Pattern.compile(forbidden).matcher(code);
            check.dueText("the search for " + forbidden, matcher.find() ? matcher.group() : "", "");
        }
        check.due("signs beyond 127", source.chars().filter(sign -> sign > 127).count(), 0);
        Matcher thrown = Pattern.compile("throw new (\\w+)").matcher(code);
        while (thrown.find()) {
            String kind = thrown.group(1);
            check.due(kind + " is an exception that the document names", kind.matches(
                    "IndexOutOfBoundsException|IllegalArgumentException|IllegalStateException") ? 1 : 0, 1);
        }
        long classes = Pattern.compile("\\b(class|record|enum|interface)\\s+\\w+").matcher(code).results().count();
        check.due(classes + " classes are at most 12", classes <= 12 ? 1 : 0, 1);
        check.end();
    }
}
