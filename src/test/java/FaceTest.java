import java.io.IOException;
import java.nio.file.Files;
import java.nio.file.Path;
import java.util.ArrayList;
import java.util.List;
import java.util.regex.Matcher;
import java.util.regex.Pattern;

/** What the document tells ahead of its Terms and promises: the public face, its headings, 512 calls. */
public final class FaceTest {
    private static final int CALLS = 512;
    private static final int METHODS = 55;

    public static void main(String[] args) throws IOException {
        Path document = Path.of("../shared/DOC.md");
        if (Files.exists(document)) {
            String source = Files.readString(Path.of("src/main/java/CableDrawer.java"));
            String told = Files.readString(document);
            declarations(told, source);
            headings(told, source);
        }
        lastCall();
        Check.finish();
    }

    /** Each line of the document's face stands in the source, in the document's order, and no other public one. */
    private static void declarations(String told, String source) {
        List<String> want = new ArrayList<>();
        Matcher line = Pattern.compile("(?m)^    (public [^=\n]*\\)|public [^(\n]*);$").matcher(face(told));
        while (line.find()) {
            want.add(line.group(1));
        }
        Check.due("lines of the face", want.size(), METHODS + 2);
        List<String> got = new ArrayList<>();
        Matcher declared = Pattern.compile("(?m)^    (public [^=\n]*\\)|public [^(\n]*)(;| \\{)$").matcher(source);
        while (declared.find()) {
            got.add(declared.group(1));
        }
        Check.due("the face is " + got + ", not " + want, got.equals(want), true);
        Check.due("the class", source.contains("\npublic final class CableDrawer {\n"), true);
    }

    private static String face(String told) {
        int from = told.indexOf("```java");
        return told.substring(from, told.indexOf("```", from + 3));
    }

    /** Each heading that the document names stands ahead of just those calls. */
    private static void headings(String told, String source) {
        Matcher group = Pattern.compile("Ahead of the calls (`[^\n]*`) the interface says: (---- [^\n]*\\.)\n").matcher(told);
        int groups = 0;
        while (group.find()) {
            groups++;
            int from = source.indexOf("\n    // " + group.group(2) + "\n");
            Check.due("the source says " + group.group(2), from >= 0, true);
            int to = source.indexOf("\n    // ----", from + 1);
            List<String> got = new ArrayList<>();
            Matcher method = Pattern.compile("\n    public \\w+ (\\w+)\\(").matcher(source.substring(Math.max(from, 0), to));
            while (method.find()) {
                got.add("`" + method.group(1) + "`");
            }
            String want = group.group(1);
            Check.due("behind " + group.group(2) + " stand " + got + ", not " + want, String.join(", ", got).equals(want), true);
        }
        Check.due("headings", groups, 8);
    }

    private static void lastCall() {
        Check.sentence(Check.TERMS, "An object is used for at most 512 calls after it has been made");
        CableDrawer x = new CableDrawer();
        long sum = 0;
        // three calls each: twenty bytes of a text that is good or not, and how many LEADS there are then
        for (int n = 0; n < 169; n++) {
            sum += Check.drawer(x, n % 2 == 0 ? "lead a long 30;" : "lead a long 31;") + 10 * x.many(0);
        }
        Check.due("85 that are good, 84 that are not", sum, 85 - 84 + 10 * 169);
        Check.feed(x, "look l a;");
        Check.due("call 509", x.drawer(9), CableDrawer.NONE);
        Check.due("call 510", x.fault(0), 3);
        Check.due("call 511", x.fault(1), 7);
        Check.due("call 512", x.lead(0, 0), 30);
        CableDrawer y = new CableDrawer();
        y.tray(0, 3, 60);
        for (int n = 2; n < CALLS; n++) {
            y.write(0, n % 60, n);
        }
        Check.due("call 512 of another one", y.read(0, (CALLS - 1) % 60), CALLS - 1);
    }
}
