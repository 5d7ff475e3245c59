import java.io.IOException;
import java.nio.charset.StandardCharsets;
import java.nio.file.Files;
import java.nio.file.Path;
import java.util.Arrays;

/** Counts answers that are not the ones that are due, and feeds texts to a CableDrawer. */
final class Check {
    /** Where sentence() looks for a sentence that no promise tells of its own. */
    static final int TERMS = 0;

    private static final Path DOCUMENT = Path.of("../shared/DOC.md");

    private static int wrong = 0;
    private static int asked = 0;
    private static int sentences = 0;
    private static String held = "";
    private static String document = null;

    private Check() {
    }

    /**
     * Says which sentence the checks that follow hold: of a promise's own section, or of the sections ahead of
     * them (TERMS). Words that don't stand there are wrong themselves.
     */
    static void sentence(int promise, String words) {
        sentences++;
        held = (promise == TERMS ? "Terms" : "Promise " + promise) + ", \"" + words + "\": ";
        if (Files.exists(DOCUMENT)) {
            due("these words stand there", section(promise).contains(onOneLine(words)), true);
        }
    }

    private static String section(int promise) {
        if (document == null) {
            try {
                document = onOneLine(Files.readString(DOCUMENT)) + " ## ";
            } catch (IOException e) {
                throw new IllegalStateException(e);
            }
        }
        int from = promise == TERMS ? 0 : document.indexOf("## Promise " + promise + ": ");
        int to = document.indexOf(promise == TERMS ? "## Promise 1: " : " ## ", Math.max(from, 0) + 3);
        return from < 0 || to < from ? "" : document.substring(from, to);
    }

    private static String onOneLine(String text) {
        return text.replaceAll("\\s+", " ");
    }

    static void due(String call, long got, long want) {
        asked++;
        if (got != want) {
            wrong++;
            System.out.println(held + call + " answered " + got + ", due is " + want);
        }
    }

    static void due(String call, boolean got, boolean want) {
        due(call, got ? 1 : 0, want ? 1 : 0);
    }

    /** A call that is refused: NONE, and the STATUS that is due. */
    static void refused(String call, CableDrawer x, long got, int status) {
        due(call, got, CableDrawer.NONE);
        due(call + ": status", x.status(), status);
    }

    static void refused(String call, CableDrawer x, boolean got, int status) {
        due(call, got, false);
        due(call + ": status", x.status(), status);
    }

    /** A call that answers: its answer, and STATUS 0. */
    static void answers(String call, CableDrawer x, long got, long want) {
        due(call, got, want);
        due(call + ": status", x.status(), 0);
    }

    static void answers(String call, CableDrawer x, boolean got) {
        due(call, got, true);
        due(call + ": status", x.status(), 0);
    }

    static void fraction(String call, CableDrawer x, boolean got, long top, long bottom) {
        due(call, got, true);
        due(call + ": status", x.status(), 0);
        due(call + ": top", x.top(), top);
        due(call + ": bottom", x.bottom(), bottom);
    }

    /** Each CROSSING of the row as over, under, STATE. */
    static void row(CableDrawer x, int... want) {
        due("crossings", x.many(1), want.length / 3);
        for (int i = 0; i < want.length; i++) {
            due("crossing(" + i / 3 + ", " + i % 3 + ")", x.crossing(i / 3, i % 3), want[i]);
        }
    }

    /** Feeds a text, filled up to twenty bytes with blanks: how many bytes the text has itself. */
    static int feed(CableDrawer x, String text) {
        byte[] bytes = text.getBytes(StandardCharsets.ISO_8859_1);
        byte[] padded = Arrays.copyOf(bytes, (bytes.length + 19) / 20 * 20);
        Arrays.fill(padded, bytes.length, padded.length, (byte) ' ');
        for (int i = 0; i < padded.length; i += 20) {
            x.feed(four(padded, i), four(padded, i + 4), four(padded, i + 8), four(padded, i + 12), four(padded, i + 16));
        }
        return bytes.length;
    }

    private static int four(byte[] b, int i) {
        return (b[i] & 255) << 24 | (b[i + 1] & 255) << 16 | (b[i + 2] & 255) << 8 | b[i + 3] & 255;
    }

    /** The text of so many LEADS, a, b and so on, each with the same words behind its NAME. */
    static String leads(int many, String words) {
        StringBuilder text = new StringBuilder();
        for (int n = 0; n < many; n++) {
            text.append("lead ").append((char) ('a' + n)).append(' ').append(words).append(';');
        }
        return text.toString();
    }

    static int drawer(CableDrawer x, String text) {
        return x.drawer(feed(x, text));
    }

    static int years(CableDrawer x, String text) {
        return x.years(feed(x, text));
    }

    /** A new object with a DRAWER that must be good. */
    static CableDrawer with(String text) {
        CableDrawer x = new CableDrawer();
        drawer(x, text);
        due("drawer of " + text + ": status", x.status(), 0);
        return x;
    }

    /** A new object with a DRAWER and YEARS that must be good. */
    static CableDrawer with(String text, String years) {
        CableDrawer x = with(text);
        years(x, years);
        due("years of " + years + ": status", x.status(), 0);
        return x;
    }

    static void finish() {
        System.out.println(asked + " answers, " + wrong + " not as due"
            + (sentences > 0 ? "; " + sentences + " sentences" : ""));
        if (wrong != 0 || asked == 0) {
            System.exit(1);
        }
    }
}
