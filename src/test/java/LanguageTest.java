import java.io.IOException;
import java.nio.file.Files;
import java.nio.file.Path;
import java.util.regex.Matcher;
import java.util.regex.Pattern;

/** The class's source has no words that LANGUAGE.md rules out; run from the project's folder. */
public final class LanguageTest {
    private static final Path SOURCE = Path.of("src/main/java/ProgramFacts.java");
    private static final String[] RULED_OUT = {
        "::", "(?m)^(?!\\s*(case\\b|default\\b)).*->", "\\bpackage\\b", "\\bprotected\\b", "\\bfinally\\b",
        "\\bthrows\\b", "\\bassert\\b", "\\bsynchronized\\b", "\\w+Exact\\b", "\\bgetMessage\\b",
        "\\bSystem\\.(?!arraycopy\\b)", "\\bhashCode\\b", "\\bRandom\\b", "\\bThread\\b", "\\bvolatile\\b",
        "\\bstatic \\{", "\\bstatic (?!final\\b)\\w+(\\[\\])* \\w+( =|;)",
        "import (?!java\\.util\\.(Arrays|ArrayList|List|Iterator|NoSuchElementException);)"};

    private static final Due DUE = new Due("LanguageTest");

    public static void main(String[] args) throws IOException {
        String source = Files.readString(SOURCE);
        String code = source.replaceAll("(?s)/\\*.*?\\*/", "").replaceAll("//[^\n]*", "");
        for (String words : RULED_OUT) {
            Matcher matcher = Pattern.compile(words).matcher(code);
            boolean found = matcher.find();
            DUE.is("found " + words + (found ? " as " + matcher.group() : ""), found, false);
        }
        DUE.is("only characters 0 to 255", source.chars().allMatch(c -> c < 256), true);
        DUE.end();
    }
}
