import java.util.function.Predicate;
import java.util.function.Supplier;
import java.util.function.ToLongFunction;

/**
 * What a call leaves as it was: two objects are made by the same calls, one of them gets the call, and then all
 * that can be seen of the two is told and compared, what lies behind YEARS, MARKS and the tape as well.
 */
final class Scene {
    static final int LEADS = 5;
    static final int CUT = 4;
    static final int CLIPPED = 3;
    static final int FREE = 2;

    private Scene() {
    }

    /**
     * An object in which nothing is as in a new one. LEADS: 0 and 1 with CROSSINGS, 2 FREE, 3 with a CLIP, 4 CUT.
     * LOOKS: 0 of LEADS 0 to 2; 1 of the one that was CUT; 2 of one that is never USED. TRAYS: 0 and 1 of three
     * numbers and of one sort, 2 without numbers and of another sort, 3 MISSING. Two MARKS. 20 bytes on the tape.
     */
    static CableDrawer full() {
        CableDrawer x = new CableDrawer();
        x.tray(0, 1, 3);
        x.write(0, 0, -5);
        x.write(0, 2, 77);
        x.tray(1, 1, 3);
        x.write(1, 1, 300);
        x.tray(2, 2, 0);
        Check.drawer(x, "lead a long 13 stiff 1 ends 2 5 costs 70 used 9; lead b long 30 costs 5; lead c long 16 stiff 3 used 4;"
            + "lead d long 9 clip; lead e long 12 costs 9 used 16; cross a b tight; cross a b; look l a b c; look m e; look n b;");
        Check.years(x, "open 2; pull a; pull a;");
        x.mark();
        Check.years(x, "open 2; take b; cut e; cut e; when cross > 1; loosen; end;");
        x.live(3);
        x.mark();
        x.pull(FREE);
        x.cross(0, 1, 1);
        x.cross(1, 0, 3);
        x.cross(0, 1, 0);
        x.follow(FREE, 0);
        x.clip(FREE);
        x.unclip(FREE);
        x.alone(0);
        x.all();
        x.fresh(0, 7);
        Check.years(x, "open 0;");
        Check.feed(x, "lead z long 3;");
        x.many(0);
        return x;
    }

    /** The same with a third MARK. */
    static CableDrawer marked() {
        CableDrawer x = full();
        x.mark();
        return x;
    }

    /** The same with 24 CROSSINGS. */
    static CableDrawer crossed() {
        CableDrawer x = full();
        for (int n = 0; n < 24; n++) {
            x.cross(1, 0, n % 4);
        }
        return x;
    }

    /** The same with 900 bytes on the tape. */
    static CableDrawer fed() {
        CableDrawer x = full();
        for (int n = 0; n < 44; n++) {
            x.feed(0x6c6f6f73, 0x656e3b20, 0x20202020, 0x6c6f6f73, 0x656e3b20);
        }
        return x;
    }

    static CableDrawer blank() {
        return new CableDrawer();
    }

    /** The same as full() without a LEAD that is IN. */
    static CableDrawer allCut() {
        CableDrawer x = full();
        for (int lead = 0; lead < LEADS; lead++) {
            x.cut(lead);
        }
        return x;
    }

    /** A call that is refused: NONE, its STATUS, and it leaves all else as it was. */
    static void refuses(String call, Supplier<CableDrawer> made, ToLongFunction<CableDrawer> asked, int status) {
        CableDrawer x = made.get();
        Check.refused(call, x, asked.applyAsLong(x), status);
        same(call, x, made.get());
    }

    /** The same of a call that answers false. */
    static void denies(String call, Supplier<CableDrawer> made, Predicate<CableDrawer> asked, int status) {
        CableDrawer x = made.get();
        Check.refused(call, x, asked.test(x), status);
        same(call, x, made.get());
    }

    /** A text that has a FAULT: NONE, STATUS 10, and it changes nothing else but the tape and what fault() tells. */
    static void faulty(String call, ToLongFunction<CableDrawer> asked, int kind, int place) {
        CableDrawer x = full();
        CableDrawer y = full();
        Check.refused(call, x, asked.applyAsLong(x), 10);
        Check.due(call + ": fault(0)", x.fault(0), kind);
        Check.due(call + ": fault(1)", x.fault(1), place);
        Check.due(call + ": the tape is empty then", x.feed(0, 0, 0, 0, 0), 20);
        // a FAULT of the same kind at the same place for both
        x.drawer(20);
        y.feed(0, 0, 0, 0, 0);
        y.drawer(40);
        y.feed(0, 0, 0, 0, 0);
        y.drawer(20);
        same(call, x, y);
    }

    /** A call that answers with STATUS 0, and leaves all as it was. */
    static void keeps(String call, Supplier<CableDrawer> made, ToLongFunction<CableDrawer> asked) {
        CableDrawer x = made.get();
        asked.applyAsLong(x);
        Check.due(call + ": status", x.status(), 0);
        same(call, x, made.get());
    }

    /** The first that is not the same of all that can be seen of two objects; both are used up by it. */
    static String difference(CableDrawer x, CableDrawer y) {
        String[] one = seen(x).split("\n");
        String[] other = seen(y).split("\n");
        for (int i = 0; i < Math.max(one.length, other.length); i++) {
            if (i >= one.length || i >= other.length || !one[i].equals(other[i])) {
                return i < one.length ? one[i] : other[i];
            }
        }
        return "";
    }

    private static void same(String call, CableDrawer x, CableDrawer y) {
        String difference = difference(x, y);
        Check.due(call + ": what it leaves as it was (" + difference + ")", difference.isEmpty(), true);
    }

    private static String seen(CableDrawer x) {
        StringBuilder told = new StringBuilder();
        told(told, "FRACTION", x.top(), x.bottom());
        told(told, "fault", x.fault(0), x.fault(1));
        told(told, "way", x.way(0), x.way(1), x.way(2), x.way(3));
        told(told, "loosens", x.loosens());
        for (int k = 0; k <= 8; k++) {
            told(told, "order", x.order(k));
        }
        told(told, "lived", x.lived(0), x.lived(1), x.lived(2), x.lived(3), x.lived(4));
        for (int tray = 0; tray < 4; tray++) {
            for (int place = 0; place <= 3; place++) {
                told(told, "tray " + tray, x.read(tray, place), x.status());
            }
        }
        drawer(told, x);
        for (int left = x.back(); left >= 0; left = x.back()) {
            told(told, "MARKS left", left);
            drawer(told, x);
        }
        int fed = x.feed(0x6c6f6f73, 0x656e3b20, 0x20202020, 0x6c6f6f73, 0x656e3b20);
        told(told, "tape", fed, x.drawer(fed < 0 ? 900 : fed), x.fault(0), x.fault(1));
        return told.toString();
    }

    /** Its numbers, and how it would go on by its YEARS. */
    private static void drawer(StringBuilder told, CableDrawer x) {
        for (int what = 0; what <= 7; what++) {
            told(told, "many", x.many(what));
        }
        int leads = x.many(0);
        for (int lead = 0; lead < leads; lead++) {
            for (int what = 0; what <= 7; what++) {
                told(told, "lead " + lead, x.lead(lead, what));
            }
        }
        int crossings = x.many(1);
        for (int k = 0; k < crossings; k++) {
            told(told, "crossing", x.crossing(k, 0), x.crossing(k, 1), x.crossing(k, 2));
        }
        told(told, "look", x.look(0), x.look(1), x.look(2));
        told(told, "YEARS", x.mean(77, 1) ? 1 : 0, x.top(), x.bottom());
    }

    private static void told(StringBuilder told, String what, long... numbers) {
        told.append(what);
        for (long number : numbers) {
            told.append(' ').append(number);
        }
        told.append('\n');
    }
}
