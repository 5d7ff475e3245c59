import java.io.IOException;
import java.nio.file.DirectoryStream;
import java.nio.file.Files;
import java.nio.file.Path;
import java.util.ArrayList;
import java.util.List;
import java.util.Set;
import java.util.TreeSet;
import java.util.regex.Matcher;
import java.util.regex.Pattern;

/** Each promise has a test that names a sentence of it, and each word from the Terms on stands in one that is named. */
public final class EveryPromiseTest {
    private static final int PROMISES = 56;
    private static final String TEXT = "\"((?:[^\"\\\\])*)\"";
    private static final Pattern SENTENCE =
        Pattern.compile("Check\\.sentence\\((Check\\.TERMS|\\d+),\\s*(" + TEXT + "(?:\\s*\\+\\s*" + TEXT + ")*)\\);");

    public static void main(String[] args) throws IOException {
        Set<String> promises = new TreeSet<>();
        List<String> sentences = new ArrayList<>();
        try (DirectoryStream<Path> tests = Files.newDirectoryStream(Path.of("src/test/java"), "*Test.java")) {
            for (Path test : tests) {
                Matcher sentence = SENTENCE.matcher(Files.readString(test));
                while (sentence.find()) {
                    promises.add(sentence.group(1));
                    sentences.add(joined(sentence.group(2)));
                }
            }
        }
        Check.due("Terms", promises.contains("Check.TERMS"), true);
        for (int promise = 1; promise <= PROMISES; promise++) {
            Check.due("promise " + promise, promises.contains("" + promise), true);
        }
        Check.due("no others", promises.size(), PROMISES + 1);
        Path document = Path.of("../shared/DOC.md");
        if (Files.exists(document)) {
            everyWord(Files.readString(document), sentences);
        }
        Check.finish();
    }

    private static String joined(String texts) {
        StringBuilder whole = new StringBuilder();
        Matcher text = Pattern.compile(TEXT).matcher(texts);
        while (text.find()) {
            whole.append(text.group(1));
        }
        return whole.toString();
    }

    /** What of the document no sentence has is told, from the Terms to the last promise. */
    private static void everyWord(String document, List<String> sentences) {
        String told = bare(document.substring(document.indexOf("## Terms"), document.indexOf("## Not promised")));
        boolean[] named = new boolean[told.length()];
        for (String sentence : sentences) {
            for (int at = told.indexOf(sentence); at >= 0; at = told.indexOf(sentence, at + 1)) {
                for (int i = at; i < at + sentence.length(); i++) {
                    named[i] = true;
                }
            }
        }
        StringBuilder left = new StringBuilder();
        for (int i = 0; i < told.length(); i++) {
            left.append(named[i] ? '|' : told.charAt(i));
        }
        for (String part : left.toString().split("\\|+")) {
            if (part.matches(".*[A-Za-z0-9].*")) {
                Check.due("no test names the words: " + part, false, true);
            }
        }
        Check.due("the document has many words", told.length() > 10000, true);
    }

    /** The sentences alone, on one line: no headings, no marks, not what FaceTest holds (the face and who stands where). */
    private static String bare(String document) {
        return document.replaceAll("(?m)^## .*$", "").replaceAll("(?m)^```\\w*$", "").replaceAll("(?m)^==== \\d\\. ?", "")
            .replaceAll("(?m)^Ahead of the calls .*$", "").replaceAll("(?m)^`[^`]*`: ", "").replaceAll("\\s+", " ");
    }
}
