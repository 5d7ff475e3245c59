/** Promises 55 and 56: mark, back. */
public final class MarksTest {
    private static final String TWO = "lead a long 9 costs 5; lead b long 9 costs 6; look l a b; cross a b tight;";

    public static void main(String[] args) {
        counts();
        whatIsKept();
        whatIsNotKept();
        anotherDrawer();
        Check.finish();
    }

    private static void counts() {
        CableDrawer x = new CableDrawer();
        Check.refused("none", x, x.back(), 8);
        for (int n = 1; n <= 3; n++) {
            Check.due("mark()", x.mark(), n);
            Check.due("status", x.status(), 0);
        }
        Check.refused("one too many", x, x.mark(), 7);
        for (int n = 2; n >= 0; n--) {
            Check.due("back()", x.back(), n);
            Check.due("status", x.status(), 0);
        }
        Check.refused("none", x, x.back(), 8);
        Check.due("mark()", x.mark(), 1);
    }

    private static void whatIsKept() {
        CableDrawer x = Check.with(TWO, "loosen;");
        x.loosen();
        x.mark();
        x.pull(0);
        x.mark();
        x.cut(0);
        x.clip(1);
        x.open(3);
        x.mark();
        x.cut(1);
        Check.due("the third", x.back(), 2);
        Check.due("IN", x.many(3), 2);
        Check.due("a CLIP", x.many(4), 2);
        Check.due("SECONDS", x.many(5), 15);
        Check.due("PENCE", x.many(6), 5);
        Check.due("OPENINGS", x.many(7), 1);
        Check.due("the second", x.back(), 1);
        Check.due("CROSSINGS", x.many(1), 1);
        Check.due("STATE", x.crossing(0, 2), 2);
        Check.due("IN", x.many(3), 3);
        Check.due("no CLIP", x.many(4), 0);
        Check.due("SECONDS", x.many(5), 3);
        Check.due("PENCE", x.many(6), 0);
        Check.due("OPENINGS", x.many(7), 0);
        Check.years(x, "loosen; loosen;");
        Check.due("the first", x.back(), 0);
        Check.due("STATE", x.crossing(0, 2), 1);
        Check.due("SECONDS", x.many(5), 1);
        Check.due("the YEARS", x.live(0), 1);
    }

    private static void whatIsNotKept() {
        CableDrawer x = Check.with(TWO, "pull a; cut a; cut a;");
        x.tray(0, 0, 1);
        x.grows();
        x.mark();
        x.write(0, 0, 7);
        x.live(0);
        x.alone(1);
        x.all();
        x.fresh(1, 0);
        x.feed(0x20202020, 0x20202020, 0x20202020, 0x20202020, 0x20202020);
        x.back();
        Check.due("TRAYS stay", x.read(0, 0), 7);
        Check.due("lived() stays", x.lived(0), 1);
        Check.due("way() stays", x.way(0), 0);
        Check.due("order() stays", x.order(0), 1);
        Check.refused("of one LEAD alone", x, x.order(1), 8);
        Check.due("the FRACTION stays", x.top(), -6);
        Check.due("the tape stays", x.years(20), 0);
    }

    private static void anotherDrawer() {
        CableDrawer x = Check.with(TWO, "loosen;");
        x.mark();
        Check.drawer(x, "lead q long 30 stiff 9;");
        Check.due("LEADS", x.many(0), 1);
        x.back();
        Check.due("LEADS", x.many(0), 2);
        Check.due("LOOKS", x.look(0), 3);
        Check.due("LONG", x.lead(0, 0), 9);
        Check.due("RISK", x.lead(0, 7), 4);
        Check.due("YEARS", x.live(0), 1);
        Check.due("NAMES", Check.years(x, "take a; take b;"), 2);
        Check.refused("not that NAME", x, Check.years(x, "take q;"), 10);
        CableDrawer y = new CableDrawer();
        y.mark();
        Check.drawer(y, TWO);
        Check.years(y, "loosen;");
        y.back();
        Check.due("no LEADS", y.many(0), 0);
        Check.refused("no YEARS", y, y.live(0), 8);
    }
}
