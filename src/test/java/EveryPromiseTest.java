import java.io.IOException;
import java.nio.file.DirectoryStream;
import java.nio.file.Files;
import java.nio.file.Path;
import java.util.Set;
import java.util.TreeSet;
import java.util.regex.Matcher;
import java.util.regex.Pattern;

/** Each promise, and the sentences ahead of them, has a test that names a sentence of it. */
public final class EveryPromiseTest {
    private static final int PROMISES = 56;

    public static void main(String[] args) throws IOException {
        Set<String> named = new TreeSet<>();
        try (DirectoryStream<Path> tests = Files.newDirectoryStream(Path.of("src/test/java"), "EdgesOf*Test.java")) {
            for (Path test : tests) {
                Matcher sentence = Pattern.compile("Check\\.sentence\\((Check\\.TERMS|\\d+), \"").matcher(Files.readString(test));
                while (sentence.find()) {
                    named.add(sentence.group(1));
                }
            }
        }
        Check.due("Terms", named.contains("Check.TERMS"), true);
        for (int promise = 1; promise <= PROMISES; promise++) {
            Check.due("promise " + promise, named.contains("" + promise), true);
        }
        Check.due("no others", named.size(), PROMISES + 1);
        Check.finish();
    }
}
